theorem dmX13_offerList_0 : decode cX13_offerList 0 = .ok (.iconst 0, 1) := dw_at cX13_offerList_k0 (p := 0) rfl (by decide +kernel)
theorem dmX13_offerList_1 : decode cX13_offerList 1 = .ok (.istore_n 1, 1) := dw_at cX13_offerList_k0 (p := 1) rfl (by decide +kernel)
theorem dmX13_offerList_2 : decode cX13_offerList 2 = .ok (.aload_n 0, 1) := dw_at cX13_offerList_k0 (p := 2) rfl (by decide +kernel)
theorem dmX13_offerList_3 : decode cX13_offerList 3 = .ok (.getfield 485, 3) := dw_at cX13_offerList_k0 (p := 3) rfl (by decide +kernel)
theorem dmX13_offerList_6 : decode cX13_offerList 6 = .ok (.istore_n 2, 1) := dw_at cX13_offerList_k0 (p := 6) rfl (by decide +kernel)
theorem dmX13_offerList_7 : decode cX13_offerList 7 = .ok (.iload_n 1, 1) := dw_at cX13_offerList_k0 (p := 7) rfl (by decide +kernel)
theorem dmX13_offerList_8 : decode cX13_offerList 8 = .ok (.iload_n 2, 1) := dw_at cX13_offerList_k0 (p := 8) rfl (by decide +kernel)
theorem dmX13_offerList_9 : decode cX13_offerList 9 = .ok (.if_icmp .ge 45, 3) := dw_at cX13_offerList_k0 (p := 9) rfl (by decide +kernel)
theorem dmX13_offerList_12 : decode cX13_offerList 12 = .ok (.iload_n 1, 1) := dw_at cX13_offerList_k0 (p := 12) rfl (by decide +kernel)
theorem dmX13_offerList_13 : decode cX13_offerList 13 = .ok (.iload_n 2, 1) := dw_at cX13_offerList_k0 (p := 13) rfl (by decide +kernel)
theorem dmX13_offerList_14 : decode cX13_offerList 14 = .ok (.iadd, 1) := dw_at cX13_offerList_k0 (p := 14) rfl (by decide +kernel)
theorem dmX13_offerList_15 : decode cX13_offerList 15 = .ok (.iconst 2, 1) := dw_at cX13_offerList_k0 (p := 15) rfl (by decide +kernel)
theorem dmX13_offerList_16 : decode cX13_offerList 16 = .ok (.idiv, 1) := dw_at cX13_offerList_k0 (p := 16) rfl (by decide +kernel)
theorem dmX13_offerList_17 : decode cX13_offerList 17 = .ok (.istore_n 3, 1) := dw_at cX13_offerList_k0 (p := 17) rfl (by decide +kernel)
theorem dmX13_offerList_18 : decode cX13_offerList 18 = .ok (.aload_n 0, 1) := dw_at cX13_offerList_k0 (p := 18) rfl (by decide +kernel)
theorem dmX13_offerList_19 : decode cX13_offerList 19 = .ok (.getfield 137, 3) := dw_at cX13_offerList_k0 (p := 19) rfl (by decide +kernel)
theorem dmX13_offerList_22 : decode cX13_offerList 22 = .ok (.bipush 32, 2) := dw_at cX13_offerList_k0 (p := 22) rfl (by decide +kernel)
theorem dmX13_offerList_24 : decode cX13_offerList 24 = .ok (.aload_n 0, 1) := dw_at cX13_offerList_k1 (p := 0) rfl (by decide +kernel)
theorem dmX13_offerList_25 : decode cX13_offerList 25 = .ok (.getfield 140, 3) := dw_at cX13_offerList_k1 (p := 1) rfl (by decide +kernel)
theorem dmX13_offerList_28 : decode cX13_offerList 28 = .ok (.iload_n 3, 1) := dw_at cX13_offerList_k1 (p := 4) rfl (by decide +kernel)
theorem dmX13_offerList_29 : decode cX13_offerList 29 = .ok (.iaload, 1) := dw_at cX13_offerList_k1 (p := 5) rfl (by decide +kernel)
theorem dmX13_offerList_30 : decode cX13_offerList 30 = .ok (.imul, 1) := dw_at cX13_offerList_k1 (p := 6) rfl (by decide +kernel)
theorem dmX13_offerList_31 : decode cX13_offerList 31 = .ok (.aload_n 0, 1) := dw_at cX13_offerList_k1 (p := 7) rfl (by decide +kernel)
theorem dmX13_offerList_32 : decode cX13_offerList 32 = .ok (.getfield 149, 3) := dw_at cX13_offerList_k1 (p := 8) rfl (by decide +kernel)
theorem dmX13_offerList_35 : decode cX13_offerList 35 = .ok (.iconst 0, 1) := dw_at cX13_offerList_k1 (p := 11) rfl (by decide +kernel)
theorem dmX13_offerList_36 : decode cX13_offerList 36 = .ok (.invokestatic 488, 3) := dw_at cX13_offerList_k1 (p := 12) rfl (by decide +kernel)
theorem dmX13_offerList_39 : decode cX13_offerList 39 = .ok (.ifCond .eq 10, 3) := dw_at cX13_offerList_k1 (p := 15) rfl (by decide +kernel)
theorem dmX13_offerList_42 : decode cX13_offerList 42 = .ok (.iload_n 3, 1) := dw_at cX13_offerList_k1 (p := 18) rfl (by decide +kernel)
theorem dmX13_offerList_43 : decode cX13_offerList 43 = .ok (.iconst 1, 1) := dw_at cX13_offerList_k1 (p := 19) rfl (by decide +kernel)
theorem dmX13_offerList_44 : decode cX13_offerList 44 = .ok (.iadd, 1) := dw_at cX13_offerList_k1 (p := 20) rfl (by decide +kernel)
theorem dmX13_offerList_45 : decode cX13_offerList 45 = .ok (.istore_n 1, 1) := dw_at cX13_offerList_k1 (p := 21) rfl (by decide +kernel)
theorem dmX13_offerList_46 : decode cX13_offerList 46 = .ok (.goto 5, 3) := dw_at cX13_offerList_k1 (p := 22) rfl (by decide +kernel)
theorem dmX13_offerList_49 : decode cX13_offerList 49 = .ok (.iload_n 3, 1) := dw_at cX13_offerList_k2 (p := 0) rfl (by decide +kernel)
theorem dmX13_offerList_50 : decode cX13_offerList 50 = .ok (.istore_n 2, 1) := dw_at cX13_offerList_k2 (p := 1) rfl (by decide +kernel)
theorem dmX13_offerList_51 : decode cX13_offerList 51 = .ok (.goto (-44), 3) := dw_at cX13_offerList_k2 (p := 2) rfl (by decide +kernel)
theorem dmX13_offerList_54 : decode cX13_offerList 54 = .ok (.iload_n 1, 1) := dw_at cX13_offerList_k2 (p := 5) rfl (by decide +kernel)
theorem dmX13_offerList_55 : decode cX13_offerList 55 = .ok (.aload_n 0, 1) := dw_at cX13_offerList_k2 (p := 6) rfl (by decide +kernel)
theorem dmX13_offerList_56 : decode cX13_offerList 56 = .ok (.getfield 485, 3) := dw_at cX13_offerList_k2 (p := 7) rfl (by decide +kernel)
theorem dmX13_offerList_59 : decode cX13_offerList 59 = .ok (.if_icmp .ge 28, 3) := dw_at cX13_offerList_k2 (p := 10) rfl (by decide +kernel)
theorem dmX13_offerList_62 : decode cX13_offerList 62 = .ok (.aload_n 0, 1) := dw_at cX13_offerList_k2 (p := 13) rfl (by decide +kernel)
theorem dmX13_offerList_63 : decode cX13_offerList 63 = .ok (.getfield 149, 3) := dw_at cX13_offerList_k2 (p := 14) rfl (by decide +kernel)
theorem dmX13_offerList_66 : decode cX13_offerList 66 = .ok (.iconst 0, 1) := dw_at cX13_offerList_k2 (p := 17) rfl (by decide +kernel)
theorem dmX13_offerList_67 : decode cX13_offerList 67 = .ok (.aload_n 0, 1) := dw_at cX13_offerList_k2 (p := 18) rfl (by decide +kernel)
theorem dmX13_offerList_68 : decode cX13_offerList 68 = .ok (.getfield 137, 3) := dw_at cX13_offerList_k2 (p := 19) rfl (by decide +kernel)
theorem dmX13_offerList_71 : decode cX13_offerList 71 = .ok (.bipush 32, 2) := dw_at cX13_offerList_k2 (p := 22) rfl (by decide +kernel)
theorem dmX13_offerList_73 : decode cX13_offerList 73 = .ok (.aload_n 0, 1) := dw_at cX13_offerList_k3 (p := 0) rfl (by decide +kernel)
theorem dmX13_offerList_74 : decode cX13_offerList 74 = .ok (.getfield 140, 3) := dw_at cX13_offerList_k3 (p := 1) rfl (by decide +kernel)
theorem dmX13_offerList_77 : decode cX13_offerList 77 = .ok (.iload_n 1, 1) := dw_at cX13_offerList_k3 (p := 4) rfl (by decide +kernel)
theorem dmX13_offerList_78 : decode cX13_offerList 78 = .ok (.iaload, 1) := dw_at cX13_offerList_k3 (p := 5) rfl (by decide +kernel)
theorem dmX13_offerList_79 : decode cX13_offerList 79 = .ok (.imul, 1) := dw_at cX13_offerList_k3 (p := 6) rfl (by decide +kernel)
theorem dmX13_offerList_80 : decode cX13_offerList 80 = .ok (.invokestatic 445, 3) := dw_at cX13_offerList_k3 (p := 7) rfl (by decide +kernel)
theorem dmX13_offerList_83 : decode cX13_offerList 83 = .ok (.ifCond .eq 4, 3) := dw_at cX13_offerList_k3 (p := 10) rfl (by decide +kernel)
theorem dmX13_offerList_86 : decode cX13_offerList 86 = .ok (.return_, 1) := dw_at cX13_offerList_k3 (p := 13) rfl (by decide +kernel)
theorem dmX13_offerList_87 : decode cX13_offerList 87 = .ok (.aload_n 0, 1) := dw_at cX13_offerList_k3 (p := 14) rfl (by decide +kernel)
theorem dmX13_offerList_88 : decode cX13_offerList 88 = .ok (.getfield 485, 3) := dw_at cX13_offerList_k3 (p := 15) rfl (by decide +kernel)
theorem dmX13_offerList_91 : decode cX13_offerList 91 = .ok (.istore_n 3, 1) := dw_at cX13_offerList_k3 (p := 18) rfl (by decide +kernel)
theorem dmX13_offerList_92 : decode cX13_offerList 92 = .ok (.iload_n 3, 1) := dw_at cX13_offerList_k3 (p := 19) rfl (by decide +kernel)
theorem dmX13_offerList_93 : decode cX13_offerList 93 = .ok (.iload_n 1, 1) := dw_at cX13_offerList_k3 (p := 20) rfl (by decide +kernel)
theorem dmX13_offerList_94 : decode cX13_offerList 94 = .ok (.if_icmp .le 23, 3) := dw_at cX13_offerList_k3 (p := 21) rfl (by decide +kernel)
theorem dmX13_offerList_97 : decode cX13_offerList 97 = .ok (.aload_n 0, 1) := dw_at cX13_offerList_k4 (p := 0) rfl (by decide +kernel)
theorem dmX13_offerList_98 : decode cX13_offerList 98 = .ok (.getfield 140, 3) := dw_at cX13_offerList_k4 (p := 1) rfl (by decide +kernel)
theorem dmX13_offerList_101 : decode cX13_offerList 101 = .ok (.iload_n 3, 1) := dw_at cX13_offerList_k4 (p := 4) rfl (by decide +kernel)
theorem dmX13_offerList_102 : decode cX13_offerList 102 = .ok (.aload_n 0, 1) := dw_at cX13_offerList_k4 (p := 5) rfl (by decide +kernel)
theorem dmX13_offerList_103 : decode cX13_offerList 103 = .ok (.getfield 140, 3) := dw_at cX13_offerList_k4 (p := 6) rfl (by decide +kernel)
theorem dmX13_offerList_106 : decode cX13_offerList 106 = .ok (.iload_n 3, 1) := dw_at cX13_offerList_k4 (p := 9) rfl (by decide +kernel)
theorem dmX13_offerList_107 : decode cX13_offerList 107 = .ok (.iconst 1, 1) := dw_at cX13_offerList_k4 (p := 10) rfl (by decide +kernel)
theorem dmX13_offerList_108 : decode cX13_offerList 108 = .ok (.isub, 1) := dw_at cX13_offerList_k4 (p := 11) rfl (by decide +kernel)
theorem dmX13_offerList_109 : decode cX13_offerList 109 = .ok (.iaload, 1) := dw_at cX13_offerList_k4 (p := 12) rfl (by decide +kernel)
theorem dmX13_offerList_110 : decode cX13_offerList 110 = .ok (.iastore, 1) := dw_at cX13_offerList_k4 (p := 13) rfl (by decide +kernel)
theorem dmX13_offerList_111 : decode cX13_offerList 111 = .ok (.iinc 3 (-1), 3) := dw_at cX13_offerList_k4 (p := 14) rfl (by decide +kernel)
theorem dmX13_offerList_114 : decode cX13_offerList 114 = .ok (.goto (-22), 3) := dw_at cX13_offerList_k4 (p := 17) rfl (by decide +kernel)
theorem dmX13_offerList_117 : decode cX13_offerList 117 = .ok (.aload_n 0, 1) := dw_at cX13_offerList_k4 (p := 20) rfl (by decide +kernel)
theorem dmX13_offerList_118 : decode cX13_offerList 118 = .ok (.getfield 140, 3) := dw_at cX13_offerList_k4 (p := 21) rfl (by decide +kernel)
theorem dmX13_offerList_121 : decode cX13_offerList 121 = .ok (.iload_n 1, 1) := dw_at cX13_offerList_k5 (p := 0) rfl (by decide +kernel)
theorem dmX13_offerList_122 : decode cX13_offerList 122 = .ok (.aload_n 0, 1) := dw_at cX13_offerList_k5 (p := 1) rfl (by decide +kernel)
theorem dmX13_offerList_123 : decode cX13_offerList 123 = .ok (.getfield 485, 3) := dw_at cX13_offerList_k5 (p := 2) rfl (by decide +kernel)
theorem dmX13_offerList_126 : decode cX13_offerList 126 = .ok (.iastore, 1) := dw_at cX13_offerList_k5 (p := 5) rfl (by decide +kernel)
theorem dmX13_offerList_127 : decode cX13_offerList 127 = .ok (.iconst 0, 1) := dw_at cX13_offerList_k5 (p := 6) rfl (by decide +kernel)
theorem dmX13_offerList_128 : decode cX13_offerList 128 = .ok (.istore_n 3, 1) := dw_at cX13_offerList_k5 (p := 7) rfl (by decide +kernel)
theorem dmX13_offerList_129 : decode cX13_offerList 129 = .ok (.iload_n 3, 1) := dw_at cX13_offerList_k5 (p := 8) rfl (by decide +kernel)
theorem dmX13_offerList_130 : decode cX13_offerList 130 = .ok (.aload_n 0, 1) := dw_at cX13_offerList_k5 (p := 9) rfl (by decide +kernel)
theorem dmX13_offerList_131 : decode cX13_offerList 131 = .ok (.getfield 149, 3) := dw_at cX13_offerList_k5 (p := 10) rfl (by decide +kernel)
theorem dmX13_offerList_134 : decode cX13_offerList 134 = .ok (.iconst 0, 1) := dw_at cX13_offerList_k5 (p := 13) rfl (by decide +kernel)
theorem dmX13_offerList_135 : decode cX13_offerList 135 = .ok (.iaload, 1) := dw_at cX13_offerList_k5 (p := 14) rfl (by decide +kernel)
theorem dmX13_offerList_136 : decode cX13_offerList 136 = .ok (.if_icmp .gt 29, 3) := dw_at cX13_offerList_k5 (p := 15) rfl (by decide +kernel)
theorem dmX13_offerList_139 : decode cX13_offerList 139 = .ok (.aload_n 0, 1) := dw_at cX13_offerList_k5 (p := 18) rfl (by decide +kernel)
theorem dmX13_offerList_140 : decode cX13_offerList 140 = .ok (.getfield 137, 3) := dw_at cX13_offerList_k5 (p := 19) rfl (by decide +kernel)
theorem dmX13_offerList_143 : decode cX13_offerList 143 = .ok (.bipush 32, 2) := dw_at cX13_offerList_k5 (p := 22) rfl (by decide +kernel)
theorem dmX13_offerList_145 : decode cX13_offerList 145 = .ok (.aload_n 0, 1) := dw_at cX13_offerList_k6 (p := 0) rfl (by decide +kernel)
theorem dmX13_offerList_146 : decode cX13_offerList 146 = .ok (.getfield 485, 3) := dw_at cX13_offerList_k6 (p := 1) rfl (by decide +kernel)
theorem dmX13_offerList_149 : decode cX13_offerList 149 = .ok (.imul, 1) := dw_at cX13_offerList_k6 (p := 4) rfl (by decide +kernel)
theorem dmX13_offerList_150 : decode cX13_offerList 150 = .ok (.iload_n 3, 1) := dw_at cX13_offerList_k6 (p := 5) rfl (by decide +kernel)
theorem dmX13_offerList_151 : decode cX13_offerList 151 = .ok (.iadd, 1) := dw_at cX13_offerList_k6 (p := 6) rfl (by decide +kernel)
theorem dmX13_offerList_152 : decode cX13_offerList 152 = .ok (.aload_n 0, 1) := dw_at cX13_offerList_k6 (p := 7) rfl (by decide +kernel)
theorem dmX13_offerList_153 : decode cX13_offerList 153 = .ok (.getfield 149, 3) := dw_at cX13_offerList_k6 (p := 8) rfl (by decide +kernel)
theorem dmX13_offerList_156 : decode cX13_offerList 156 = .ok (.iload_n 3, 1) := dw_at cX13_offerList_k6 (p := 11) rfl (by decide +kernel)
theorem dmX13_offerList_157 : decode cX13_offerList 157 = .ok (.iaload, 1) := dw_at cX13_offerList_k6 (p := 12) rfl (by decide +kernel)
theorem dmX13_offerList_158 : decode cX13_offerList 158 = .ok (.iastore, 1) := dw_at cX13_offerList_k6 (p := 13) rfl (by decide +kernel)
theorem dmX13_offerList_159 : decode cX13_offerList 159 = .ok (.iinc 3 1, 3) := dw_at cX13_offerList_k6 (p := 14) rfl (by decide +kernel)
theorem dmX13_offerList_162 : decode cX13_offerList 162 = .ok (.goto (-33), 3) := dw_at cX13_offerList_k6 (p := 17) rfl (by decide +kernel)
theorem dmX13_offerList_165 : decode cX13_offerList 165 = .ok (.aload_n 0, 1) := dw_at cX13_offerList_k6 (p := 20) rfl (by decide +kernel)
theorem dmX13_offerList_166 : decode cX13_offerList 166 = .ok (.dup, 1) := dw_at cX13_offerList_k6 (p := 21) rfl (by decide +kernel)
theorem dmX13_offerList_167 : decode cX13_offerList 167 = .ok (.getfield 485, 3) := dw_at cX13_offerList_k6 (p := 22) rfl (by decide +kernel)
theorem dmX13_offerList_170 : decode cX13_offerList 170 = .ok (.iconst 1, 1) := dw_at cX13_offerList_k6 (p := 25) rfl (by decide +kernel)
theorem dmX13_offerList_171 : decode cX13_offerList 171 = .ok (.iadd, 1) := dw_at cX13_offerList_k6 (p := 26) rfl (by decide +kernel)
theorem dmX13_offerList_172 : decode cX13_offerList 172 = .ok (.putfield 485, 3) := dw_at cX13_offerList_k6 (p := 27) rfl (by decide +kernel)
theorem dmX13_offerList_175 : decode cX13_offerList 175 = .ok (.return_, 1) := dw_at cX13_offerList_k6 (p := 30) rfl (by decide +kernel)
def qm_X13_offerList_0 (K : Nat) (go : Nat → Int32 → Int32 → Int32 → ow_MS → Option ow_MS) (x1 : Int32) (x2 : Int32) (x3 : Int32) (z : ow_MS) : Option ow_MS :=
 rdF z 22 fun v1 => go 1 0 v1 0 z
def qm_X13_offerList_1 (K : Nat) (go : Nat → Int32 → Int32 → Int32 → ow_MS → Option ow_MS) (x1 : Int32) (x2 : Int32) (x3 : Int32) (z : ow_MS) : Option ow_MS :=
 (if x2 ≤ x1 then rdF z 22 fun v2 => (if v2 ≤ x1 then go 3 x1 x2 0 z
 else rdI mX z 21 x1 fun v3 => cs1 (qe_X13_isSame K 27 0 20 (32 * v3) z) fun v5 z4 => (if v5 = 0 then go 3 x1 x2 0 z4
 else some z4))
 else nzI 2 (rdI mX z 21 ((x1 + x2) / 2) fun v6 => cs1 (qe_X13_isLesser K 20 (32 * v6) 27 0 z) fun v8 z7 => (if v8 = 0 then go 2 x1 ((x1 + x2) / 2) ((x1 + x2) / 2) z7
 else go 2 (((x1 + x2) / 2) + 1) x2 ((x1 + x2) / 2) z7)))
def qm_X13_offerList_2 (K : Nat) (go : Nat → Int32 → Int32 → Int32 → ow_MS → Option ow_MS) (x1 : Int32) (x2 : Int32) (x3 : Int32) (z : ow_MS) : Option ow_MS :=
 go 1 x1 x2 0 z
def qm_X13_offerList_3 (K : Nat) (go : Nat → Int32 → Int32 → Int32 → ow_MS → Option ow_MS) (x1 : Int32) (x2 : Int32) (x3 : Int32) (z : ow_MS) : Option ow_MS :=
 rdF z 22 fun v9 => go 4 x1 x2 v9 z
def qm_X13_offerList_4 (K : Nat) (go : Nat → Int32 → Int32 → Int32 → ow_MS → Option ow_MS) (x1 : Int32) (x2 : Int32) (x3 : Int32) (z : ow_MS) : Option ow_MS :=
 (if x3 ≤ x1 then rdF z 22 fun v10 => wrI mX z 21 x1 v10 fun z11 => go 5 x1 x2 0 z11
 else rdI mX z 21 (x3 - 1) fun v12 => wrI mX z 21 x3 v12 fun z13 => go 4 x1 x2 (x3 + (-1)) z13)
def qm_X13_offerList_5 (K : Nat) (go : Nat → Int32 → Int32 → Int32 → ow_MS → Option ow_MS) (x1 : Int32) (x2 : Int32) (x3 : Int32) (z : ow_MS) : Option ow_MS :=
 rdI mX z 27 0 fun v14 => (if v14 < x3 then rdF z 22 fun v15 => wrF z 22 (v15 + 1) fun z16 => some z16
 else rdF z 22 fun v17 => rdI mX z 27 x3 fun v18 => wrI mX z 20 ((32 * v17) + x3) v18 fun z19 => go 5 x1 x2 (x3 + 1) z19)
def qb_X13_offerList (K : Nat) (go : Nat → Int32 → Int32 → Int32 → ow_MS → Option ow_MS) (L : Nat) (x1 : Int32) (x2 : Int32) (x3 : Int32) (z : ow_MS) : Option ow_MS := match L with
  | 0 => qm_X13_offerList_0 K go x1 x2 x3 z
  | 1 => qm_X13_offerList_1 K go x1 x2 x3 z
  | 2 => qm_X13_offerList_2 K go x1 x2 x3 z
  | 3 => qm_X13_offerList_3 K go x1 x2 x3 z
  | 4 => qm_X13_offerList_4 K go x1 x2 x3 z
  | 5 => qm_X13_offerList_5 K go x1 x2 x3 z
  | _ => none
def q_X13_offerList (K : Nat) : Nat → Nat → Int32 → Int32 → Int32 → ow_MS → Option ow_MS
  | 0 => fun _ _ _ _ _ => none
  | k + 1 => qb_X13_offerList K (q_X13_offerList K k)
def qe_X13_offerList (K : Nat)  (z : ow_MS) : Option ow_MS := q_X13_offerList K K 0 0 0 0 z
abbrev wm_X13_offerList : List Cond := .code yX13_offerList cX13_offerList 4 none :: wM
theorem cd_X13_offerList : yX13_offerList.cls = RX13 ∧ yX13_offerList.cls ≠ "java/lang/invoke/MethodHandle" ∧ yX13_offerList.cls ≠ "java/lang/invoke/VarHandle" ∧ (parseMethodDescriptor yX13_offerList.desc).map (fun d => d.parameters.length) = some 0 := by decide +kernel
set_option maxHeartbeats 4000000 in
set_option maxRecDepth 100000 in
theorem km_X13_offerList (l : Launch) (D : va_G) (q : ow_Q5) (u : Nat → Nat) (hU : tw_inj mX u) (K : Nat)   (z z1 : ow_MS) (hq : qe_X13_offerList K  z = some z1) : Met l yX13_offerList wm_X13_offerList ({ frames := 3, cells := 0, slots := 0, locals := 79 } : Room) (va_Pc [.ref (u 0)] (mw_pre D q u z)) (va_Qv (fun (_ : Unit) => True) (fun _ t => va_P D vwCl (tw mX q u z1) t.heap) (tw_A mX u)) 0 0 (tw_A mX u) := by
  refine Met.ofW (cc := cX13_offerList) (maxL := 4) (ret := none) (by decide) rfl ?_
  intro p e s m args below meth c s₁ B hml hv
  obtain ⟨rfl, hP, hK, hN⟩ := hv
  have hx := B.exec
  have hb := B.bytes
  have hr := B.returns
  have hts := atoms_spec (ws := wm_X13_offerList) B.pre
  have hT : ∀ w ∈ wM, w.before ([.ref (u 0)] : List Value).toArray s = true := fun w h => hts w (List.mem_cons_of_mem _ h)
  have hown : s.vm.findClass RX13 = some m.cls := findClass_of_methodNamed B.named
  have hlocks := B.notSynchronized
  have hM : tw_M D vwCl mX q s.heap u z s.heap [] := ⟨hP, va_S.rf⟩
  have hl := lv_entry ([.ref (u 0)]) (n := 4) (Nat.le_of_ble_eq_true rfl)
  rw [lg_entry_eq]
  generalize (lg_sl ([.ref (u 0)]) ++ List.replicate (4 - (lg_sl ([.ref (u 0)])).length) Slot.unset).toArray = ls at hl ⊢
  have hl : lv_has ls 4 [(0, .ref (u 0))] := hl
  refine ow_named (fun QQ hQQ => ?_)
  generalize ([.ref (u 0)] : List Value).toArray = args at hts hT hQQ ⊢
  have key : ∀ k : Nat, (∀ (x1 : Int32) (x2 : Int32) (x3 : Int32) (z : ow_MS) (H : Heap) (locs : List Loc) (ls : Array Slot), tw_M D vwCl mX q s.heap u z H locs → lv_has ls 4 [(0, .ref (u 0))] → q_X13_offerList K k 0 x1 x2 x3 z = some z1 → W p l e ({ frames := 3, cells := 0, slots := 0, locals := 79 } : Room) s m args below meth c H locs 0 0 QQ (F0 m 0 ls [])) ∧ (∀ (x1 : Int32) (x2 : Int32) (x3 : Int32) (z : ow_MS) (H : Heap) (locs : List Loc) (ls : Array Slot), tw_M D vwCl mX q s.heap u z H locs → lv_has ls 4 [(0, .ref (u 0)), (1, .int x1), (2, .int x2)] → q_X13_offerList K k 1 x1 x2 x3 z = some z1 → W p l e ({ frames := 3, cells := 0, slots := 0, locals := 79 } : Room) s m args below meth c H locs 0 0 QQ (F0 m 7 ls [])) ∧ (∀ (x1 : Int32) (x2 : Int32) (x3 : Int32) (z : ow_MS) (H : Heap) (locs : List Loc) (ls : Array Slot), tw_M D vwCl mX q s.heap u z H locs → lv_has ls 4 [(0, .ref (u 0)), (1, .int x1), (2, .int x2), (3, .int x3)] → q_X13_offerList K k 2 x1 x2 x3 z = some z1 → W p l e ({ frames := 3, cells := 0, slots := 0, locals := 79 } : Room) s m args below meth c H locs 0 0 QQ (F0 m 51 ls [])) ∧ (∀ (x1 : Int32) (x2 : Int32) (x3 : Int32) (z : ow_MS) (H : Heap) (locs : List Loc) (ls : Array Slot), tw_M D vwCl mX q s.heap u z H locs → lv_has ls 4 [(0, .ref (u 0)), (1, .int x1), (2, .int x2)] → q_X13_offerList K k 3 x1 x2 x3 z = some z1 → W p l e ({ frames := 3, cells := 0, slots := 0, locals := 79 } : Room) s m args below meth c H locs 0 0 QQ (F0 m 87 ls [])) ∧ (∀ (x1 : Int32) (x2 : Int32) (x3 : Int32) (z : ow_MS) (H : Heap) (locs : List Loc) (ls : Array Slot), tw_M D vwCl mX q s.heap u z H locs → lv_has ls 4 [(0, .ref (u 0)), (1, .int x1), (2, .int x2), (3, .int x3)] → q_X13_offerList K k 4 x1 x2 x3 z = some z1 → W p l e ({ frames := 3, cells := 0, slots := 0, locals := 79 } : Room) s m args below meth c H locs 0 0 QQ (F0 m 92 ls [])) ∧ (∀ (x1 : Int32) (x2 : Int32) (x3 : Int32) (z : ow_MS) (H : Heap) (locs : List Loc) (ls : Array Slot), tw_M D vwCl mX q s.heap u z H locs → lv_has ls 4 [(0, .ref (u 0)), (1, .int x1), (2, .int x2), (3, .int x3)] → q_X13_offerList K k 5 x1 x2 x3 z = some z1 → W p l e ({ frames := 3, cells := 0, slots := 0, locals := 79 } : Room) s m args below meth c H locs 0 0 QQ (F0 m 129 ls [])) := by
    intro k
    induction k with
    | zero => exact ⟨fun _ _ _ _ _ _ _  _ _ hq => tw_no hq, fun _ _ _ _ _ _ _  _ _ hq => tw_no hq, fun _ _ _ _ _ _ _  _ _ hq => tw_no hq, fun _ _ _ _ _ _ _  _ _ hq => tw_no hq, fun _ _ _ _ _ _ _  _ _ hq => tw_no hq, fun _ _ _ _ _ _ _  _ _ hq => tw_no hq⟩
    | succ k ih =>
      obtain ⟨ih_0, ih_1, ih_2, ih_3, ih_4, ih_5⟩ := ih
      refine ⟨?_, ?_, ?_, ?_, ?_, ?_⟩
      · intro x1 x2 x3 z H locs ls  hM hl hq
        have hq : qm_X13_offerList_0 K (q_X13_offerList K k) x1 x2 x3 z = some z1 := hq
        unfold qm_X13_offerList_0 at hq
        refine lv_iconst (v := 0) hx hb dmX13_offerList_0 (by decide) ?_
        refine lv_istore_n (lv' := [(1, .int 0), (0, .ref (u 0))]) hx hb dmX13_offerList_1 rfl hl (by decide) rfl (fun ls hl => ?_)
        refine lv_aload_n hx hb dmX13_offerList_2 rfl (lv_at hl 1 rfl) ?_
        refine mg13_485 hx hb hT hown hK hM hq dmX13_offerList_3 (fun v1 hq => ?_)
        refine lv_istore_n (lv' := [(2, .int v1), (1, .int 0), (0, .ref (u 0))]) hx hb dmX13_offerList_6 rfl hl (by decide) rfl (fun ls hl => ?_)
        exact ih_1 0 v1 0 z H locs ls hM (lv_sub hl [2, 1, 0] rfl) hq
      · intro x1 x2 x3 z H locs ls  hM hl hq
        have hq : qm_X13_offerList_1 K (q_X13_offerList K k) x1 x2 x3 z = some z1 := hq
        unfold qm_X13_offerList_1 at hq
        refine lv_iload_n hx hb dmX13_offerList_7 rfl (lv_at hl 1 rfl) ?_
        refine lv_iload_n hx hb dmX13_offerList_8 rfl (lv_at hl 2 rfl) ?_
        refine lv_icmp_ge (tgt := 54) hx hb dmX13_offerList_9 (by decide) (fun hc => ?_) (fun hc => ?_)
        · have hq := tw_it hq hc
          refine lv_iload_n hx hb dmX13_offerList_54 rfl (lv_at hl 1 rfl) ?_
          refine lv_aload_n hx hb dmX13_offerList_55 rfl (lv_at hl 0 rfl) ?_
          refine mg13_485 hx hb hT hown hK hM hq dmX13_offerList_56 (fun v2 hq => ?_)
          refine lv_icmp_ge (tgt := 87) hx hb dmX13_offerList_59 (by decide) (fun hc => ?_) (fun hc => ?_)
          · have hq := tw_it hq hc
            exact ih_3 x1 x2 0 z H locs ls hM (lv_sub hl [0, 1, 2] rfl) hq
          · have hq := tw_if hq hc
            refine lv_aload_n hx hb dmX13_offerList_62 rfl (lv_at hl 0 rfl) ?_
            refine mg13_149 hx hb hT hown hK hM dmX13_offerList_63 ?_
            refine lv_iconst (v := 0) hx hb dmX13_offerList_66 (by decide) ?_
            refine lv_aload_n hx hb dmX13_offerList_67 rfl (lv_at hl 0 rfl) ?_
            refine mg13_137 hx hb hT hown hK hM dmX13_offerList_68 ?_
            refine lv_bipush (v := 32) hx hb dmX13_offerList_71 (by decide) ?_
            refine lv_aload_n hx hb dmX13_offerList_73 rfl (lv_at hl 0 rfl) ?_
            refine mg13_140 hx hb hT hown hK hM dmX13_offerList_74 ?_
            refine lv_iload_n hx hb dmX13_offerList_77 rfl (lv_at hl 1 rfl) ?_
            refine tw_iald mX_ok hx hb hK hM mr_21 hq dmX13_offerList_78 (fun v3 hq => ?_)
            refine lv_imul hx hb dmX13_offerList_79 ?_
            obtain ⟨v5, z4, hcq, hq⟩ := tw_cl1 hq
            refine tw_cali hM (va_runS (As := [.ref (u 27), .int 0, .ref (u 20), .int (32 * v3)]) (rest := []) ⟨hx, hb, hml, hown, hts⟩ (km_X13_isSame l D q u hU K 27 0 20 (32 * v3) mr_27 mr_20 z z4 v5 hcq) (va_cwS 4 hts (tw_gS wM_good wq_149 wq_150 wq_61 wq_74) rfl rfl rfl cd_X13_isSame ⟨(Nat.le_of_ble_eq_true rfl), (Nat.le_of_ble_eq_true rfl)⟩) (mw_preS hK hN hM) rfl rfl hl.1 rfl (lv_room (Nat.le_of_ble_eq_true rfl)) dmX13_offerList_80 ⟨(Nat.le_of_ble_eq_true rfl), (Nat.le_of_ble_eq_true rfl)⟩) (fun H locs hM => ?_)
            refine lv_if_eq (tgt := 87) hx hb dmX13_offerList_83 (by decide) (fun hc => ?_) (fun hc => ?_)
            · have hq := tw_it hq hc
              exact ih_3 x1 x2 0 z4 H locs ls hM (lv_sub hl [0, 1, 2] rfl) hq
            · have hq := tw_if hq hc
              exact mw_vret hx hb hr hlocks hM hq hQQ dmX13_offerList_86
        · have hq := tw_if hq hc
          refine lv_iload_n hx hb dmX13_offerList_12 rfl (lv_at hl 1 rfl) ?_
          refine lv_iload_n hx hb dmX13_offerList_13 rfl (lv_at hl 2 rfl) ?_
          refine lv_iadd hx hb dmX13_offerList_14 ?_
          refine lv_iconst (v := 2) hx hb dmX13_offerList_15 (by decide) ?_
          obtain ⟨hz, hq⟩ := tw_nzI hq
          refine lv_idiv hx hb dmX13_offerList_16 hz ?_
          refine lv_istore_n (lv' := [(3, .int ((x1 + x2) / 2)), (0, .ref (u 0)), (1, .int x1), (2, .int x2)]) hx hb dmX13_offerList_17 rfl hl (by decide) rfl (fun ls hl => ?_)
          refine lv_aload_n hx hb dmX13_offerList_18 rfl (lv_at hl 1 rfl) ?_
          refine mg13_137 hx hb hT hown hK hM dmX13_offerList_19 ?_
          refine lv_bipush (v := 32) hx hb dmX13_offerList_22 (by decide) ?_
          refine lv_aload_n hx hb dmX13_offerList_24 rfl (lv_at hl 1 rfl) ?_
          refine mg13_140 hx hb hT hown hK hM dmX13_offerList_25 ?_
          refine lv_iload_n hx hb dmX13_offerList_28 rfl (lv_at hl 0 rfl) ?_
          refine tw_iald mX_ok hx hb hK hM mr_21 hq dmX13_offerList_29 (fun v6 hq => ?_)
          refine lv_imul hx hb dmX13_offerList_30 ?_
          refine lv_aload_n hx hb dmX13_offerList_31 rfl (lv_at hl 1 rfl) ?_
          refine mg13_149 hx hb hT hown hK hM dmX13_offerList_32 ?_
          refine lv_iconst (v := 0) hx hb dmX13_offerList_35 (by decide) ?_
          obtain ⟨v8, z7, hcq, hq⟩ := tw_cl1 hq
          refine tw_cali hM (va_runS (As := [.ref (u 20), .int (32 * v6), .ref (u 27), .int 0]) (rest := []) ⟨hx, hb, hml, hown, hts⟩ (km_X13_isLesser l D q u hU K 20 (32 * v6) 27 0 mr_20 mr_27 z z7 v8 hcq) (va_cwS 4 hts (tw_gS wM_good wq_185 wq_186 wq_61 wq_73) rfl rfl rfl cd_X13_isLesser ⟨(Nat.le_of_ble_eq_true rfl), (Nat.le_of_ble_eq_true rfl)⟩) (mw_preS hK hN hM) rfl rfl hl.1 rfl (lv_room (Nat.le_of_ble_eq_true rfl)) dmX13_offerList_36 ⟨(Nat.le_of_ble_eq_true rfl), (Nat.le_of_ble_eq_true rfl)⟩) (fun H locs hM => ?_)
          refine lv_if_eq (tgt := 49) hx hb dmX13_offerList_39 (by decide) (fun hc => ?_) (fun hc => ?_)
          · have hq := tw_it hq hc
            refine lv_iload_n hx hb dmX13_offerList_49 rfl (lv_at hl 0 rfl) ?_
            refine lv_istore_n (lv' := [(2, .int ((x1 + x2) / 2)), (3, .int ((x1 + x2) / 2)), (0, .ref (u 0)), (1, .int x1)]) hx hb dmX13_offerList_50 rfl hl (by decide) rfl (fun ls hl => ?_)
            exact ih_2 x1 ((x1 + x2) / 2) ((x1 + x2) / 2) z7 H locs ls hM (lv_sub hl [2, 3, 0, 1] rfl) hq
          · have hq := tw_if hq hc
            refine lv_iload_n hx hb dmX13_offerList_42 rfl (lv_at hl 0 rfl) ?_
            refine lv_iconst (v := 1) hx hb dmX13_offerList_43 (by decide) ?_
            refine lv_iadd hx hb dmX13_offerList_44 ?_
            refine lv_istore_n (lv' := [(1, .int (((x1 + x2) / 2) + 1)), (3, .int ((x1 + x2) / 2)), (0, .ref (u 0)), (2, .int x2)]) hx hb dmX13_offerList_45 rfl hl (by decide) rfl (fun ls hl => ?_)
            refine lv_goto (tgt := 51) hx hb dmX13_offerList_46 (by decide) ?_
            exact ih_2 (((x1 + x2) / 2) + 1) x2 ((x1 + x2) / 2) z7 H locs ls hM (lv_sub hl [2, 0, 3, 1] rfl) hq
      · intro x1 x2 x3 z H locs ls  hM hl hq
        have hq : qm_X13_offerList_2 K (q_X13_offerList K k) x1 x2 x3 z = some z1 := hq
        unfold qm_X13_offerList_2 at hq
        refine lv_goto (tgt := 7) hx hb dmX13_offerList_51 (by decide) ?_
        exact ih_1 x1 x2 0 z H locs ls hM (lv_sub hl [0, 1, 2] rfl) hq
      · intro x1 x2 x3 z H locs ls  hM hl hq
        have hq : qm_X13_offerList_3 K (q_X13_offerList K k) x1 x2 x3 z = some z1 := hq
        unfold qm_X13_offerList_3 at hq
        refine lv_aload_n hx hb dmX13_offerList_87 rfl (lv_at hl 0 rfl) ?_
        refine mg13_485 hx hb hT hown hK hM hq dmX13_offerList_88 (fun v9 hq => ?_)
        refine lv_istore_n (lv' := [(3, .int v9), (0, .ref (u 0)), (1, .int x1), (2, .int x2)]) hx hb dmX13_offerList_91 rfl hl (by decide) rfl (fun ls hl => ?_)
        exact ih_4 x1 x2 v9 z H locs ls hM (lv_sub hl [1, 2, 3, 0] rfl) hq
      · intro x1 x2 x3 z H locs ls  hM hl hq
        have hq : qm_X13_offerList_4 K (q_X13_offerList K k) x1 x2 x3 z = some z1 := hq
        unfold qm_X13_offerList_4 at hq
        refine lv_iload_n hx hb dmX13_offerList_92 rfl (lv_at hl 3 rfl) ?_
        refine lv_iload_n hx hb dmX13_offerList_93 rfl (lv_at hl 1 rfl) ?_
        refine lv_icmp_le (tgt := 117) hx hb dmX13_offerList_94 (by decide) (fun hc => ?_) (fun hc => ?_)
        · have hq := tw_it hq hc
          refine lv_aload_n hx hb dmX13_offerList_117 rfl (lv_at hl 0 rfl) ?_
          refine mg13_140 hx hb hT hown hK hM dmX13_offerList_118 ?_
          refine lv_iload_n hx hb dmX13_offerList_121 rfl (lv_at hl 1 rfl) ?_
          refine lv_aload_n hx hb dmX13_offerList_122 rfl (lv_at hl 0 rfl) ?_
          refine mg13_485 hx hb hT hown hK hM hq dmX13_offerList_123 (fun v10 hq => ?_)
          refine tw_iast mX_ok hU hx hb hK hM mr_21 hq dmX13_offerList_126 (fun z11 H locs hM hq => ?_)
          refine lv_iconst (v := 0) hx hb dmX13_offerList_127 (by decide) ?_
          refine lv_istore_n (lv' := [(3, .int 0), (0, .ref (u 0)), (1, .int x1), (2, .int x2)]) hx hb dmX13_offerList_128 rfl hl (by decide) rfl (fun ls hl => ?_)
          exact ih_5 x1 x2 0 z11 H locs ls hM (lv_sub hl [1, 2, 3, 0] rfl) hq
        · have hq := tw_if hq hc
          refine lv_aload_n hx hb dmX13_offerList_97 rfl (lv_at hl 0 rfl) ?_
          refine mg13_140 hx hb hT hown hK hM dmX13_offerList_98 ?_
          refine lv_iload_n hx hb dmX13_offerList_101 rfl (lv_at hl 3 rfl) ?_
          refine lv_aload_n hx hb dmX13_offerList_102 rfl (lv_at hl 0 rfl) ?_
          refine mg13_140 hx hb hT hown hK hM dmX13_offerList_103 ?_
          refine lv_iload_n hx hb dmX13_offerList_106 rfl (lv_at hl 3 rfl) ?_
          refine lv_iconst (v := 1) hx hb dmX13_offerList_107 (by decide) ?_
          refine lv_isub hx hb dmX13_offerList_108 ?_
          refine tw_iald mX_ok hx hb hK hM mr_21 hq dmX13_offerList_109 (fun v12 hq => ?_)
          refine tw_iast mX_ok hU hx hb hK hM mr_21 hq dmX13_offerList_110 (fun z13 H locs hM hq => ?_)
          refine lv_iinc (v := (x3 + (-1))) (lv' := [(3, .int (x3 + (-1))), (0, .ref (u 0)), (1, .int x1), (2, .int x2)]) hx hb dmX13_offerList_111 hl (k := 3) rfl rfl (by decide) rfl (fun ls hl => ?_)
          refine lv_goto (tgt := 92) hx hb dmX13_offerList_114 (by decide) ?_
          exact ih_4 x1 x2 (x3 + (-1)) z13 H locs ls hM (lv_sub hl [1, 2, 3, 0] rfl) hq
      · intro x1 x2 x3 z H locs ls  hM hl hq
        have hq : qm_X13_offerList_5 K (q_X13_offerList K k) x1 x2 x3 z = some z1 := hq
        unfold qm_X13_offerList_5 at hq
        refine lv_iload_n hx hb dmX13_offerList_129 rfl (lv_at hl 3 rfl) ?_
        refine lv_aload_n hx hb dmX13_offerList_130 rfl (lv_at hl 0 rfl) ?_
        refine mg13_149 hx hb hT hown hK hM dmX13_offerList_131 ?_
        refine lv_iconst (v := 0) hx hb dmX13_offerList_134 (by decide) ?_
        refine tw_iald mX_ok hx hb hK hM mr_27 hq dmX13_offerList_135 (fun v14 hq => ?_)
        refine lv_icmp_gt (tgt := 165) hx hb dmX13_offerList_136 (by decide) (fun hc => ?_) (fun hc => ?_)
        · have hq := tw_it hq hc
          refine lv_aload_n hx hb dmX13_offerList_165 rfl (lv_at hl 0 rfl) ?_
          refine lv_dup hx hb dmX13_offerList_166 rfl ?_
          refine mg13_485 hx hb hT hown hK hM hq dmX13_offerList_167 (fun v15 hq => ?_)
          refine lv_iconst (v := 1) hx hb dmX13_offerList_170 (by decide) ?_
          refine lv_iadd hx hb dmX13_offerList_171 ?_
          refine mp13_485 hx hb hT hown hK hM hU hq dmX13_offerList_172 (fun z16 H locs hM hq => ?_)
          exact mw_vret hx hb hr hlocks hM hq hQQ dmX13_offerList_175
        · have hq := tw_if hq hc
          refine lv_aload_n hx hb dmX13_offerList_139 rfl (lv_at hl 0 rfl) ?_
          refine mg13_137 hx hb hT hown hK hM dmX13_offerList_140 ?_
          refine lv_bipush (v := 32) hx hb dmX13_offerList_143 (by decide) ?_
          refine lv_aload_n hx hb dmX13_offerList_145 rfl (lv_at hl 0 rfl) ?_
          refine mg13_485 hx hb hT hown hK hM hq dmX13_offerList_146 (fun v17 hq => ?_)
          refine lv_imul hx hb dmX13_offerList_149 ?_
          refine lv_iload_n hx hb dmX13_offerList_150 rfl (lv_at hl 3 rfl) ?_
          refine lv_iadd hx hb dmX13_offerList_151 ?_
          refine lv_aload_n hx hb dmX13_offerList_152 rfl (lv_at hl 0 rfl) ?_
          refine mg13_149 hx hb hT hown hK hM dmX13_offerList_153 ?_
          refine lv_iload_n hx hb dmX13_offerList_156 rfl (lv_at hl 3 rfl) ?_
          refine tw_iald mX_ok hx hb hK hM mr_27 hq dmX13_offerList_157 (fun v18 hq => ?_)
          refine tw_iast mX_ok hU hx hb hK hM mr_20 hq dmX13_offerList_158 (fun z19 H locs hM hq => ?_)
          refine lv_iinc (v := (x3 + 1)) (lv' := [(3, .int (x3 + 1)), (0, .ref (u 0)), (1, .int x1), (2, .int x2)]) hx hb dmX13_offerList_159 hl (k := 3) rfl rfl (by decide) rfl (fun ls hl => ?_)
          refine lv_goto (tgt := 129) hx hb dmX13_offerList_162 (by decide) ?_
          exact ih_5 x1 x2 (x3 + 1) z19 H locs ls hM (lv_sub hl [1, 2, 3, 0] rfl) hq
  exact (key K).1 0 0 0 z s.heap [] ls  hM (lv_sub hl [0] rfl) hq
theorem dmX13_offerRow_0 : decode cX13_offerRow 0 = .ok (.iconst 0, 1) := dw_at cX13_offerRow_k0 (p := 0) rfl (by decide +kernel)
theorem dmX13_offerRow_1 : decode cX13_offerRow 1 = .ok (.istore 4, 2) := dw_at cX13_offerRow_k0 (p := 1) rfl (by decide +kernel)
theorem dmX13_offerRow_3 : decode cX13_offerRow 3 = .ok (.iload 4, 2) := dw_at cX13_offerRow_k0 (p := 3) rfl (by decide +kernel)
theorem dmX13_offerRow_5 : decode cX13_offerRow 5 = .ok (.iload_n 2, 1) := dw_at cX13_offerRow_k0 (p := 5) rfl (by decide +kernel)
theorem dmX13_offerRow_6 : decode cX13_offerRow 6 = .ok (.if_icmp .ge 28, 3) := dw_at cX13_offerRow_k0 (p := 6) rfl (by decide +kernel)
theorem dmX13_offerRow_9 : decode cX13_offerRow 9 = .ok (.aload_n 0, 1) := dw_at cX13_offerRow_k0 (p := 9) rfl (by decide +kernel)
theorem dmX13_offerRow_10 : decode cX13_offerRow 10 = .ok (.getfield 149, 3) := dw_at cX13_offerRow_k0 (p := 10) rfl (by decide +kernel)
theorem dmX13_offerRow_13 : decode cX13_offerRow 13 = .ok (.iconst 0, 1) := dw_at cX13_offerRow_k0 (p := 13) rfl (by decide +kernel)
theorem dmX13_offerRow_14 : decode cX13_offerRow 14 = .ok (.aload_n 1, 1) := dw_at cX13_offerRow_k0 (p := 14) rfl (by decide +kernel)
theorem dmX13_offerRow_15 : decode cX13_offerRow 15 = .ok (.bipush 32, 2) := dw_at cX13_offerRow_k0 (p := 15) rfl (by decide +kernel)
theorem dmX13_offerRow_17 : decode cX13_offerRow 17 = .ok (.iload 4, 2) := dw_at cX13_offerRow_k0 (p := 17) rfl (by decide +kernel)
theorem dmX13_offerRow_19 : decode cX13_offerRow 19 = .ok (.imul, 1) := dw_at cX13_offerRow_k0 (p := 19) rfl (by decide +kernel)
theorem dmX13_offerRow_20 : decode cX13_offerRow 20 = .ok (.invokestatic 445, 3) := dw_at cX13_offerRow_k0 (p := 20) rfl (by decide +kernel)
theorem dmX13_offerRow_23 : decode cX13_offerRow 23 = .ok (.ifCond .eq 5, 3) := dw_at cX13_offerRow_k0 (p := 23) rfl (by decide +kernel)
theorem dmX13_offerRow_26 : decode cX13_offerRow 26 = .ok (.iload_n 2, 1) := dw_at cX13_offerRow_k1 (p := 0) rfl (by decide +kernel)
theorem dmX13_offerRow_27 : decode cX13_offerRow 27 = .ok (.ireturn, 1) := dw_at cX13_offerRow_k1 (p := 1) rfl (by decide +kernel)
theorem dmX13_offerRow_28 : decode cX13_offerRow 28 = .ok (.iinc 4 1, 3) := dw_at cX13_offerRow_k1 (p := 2) rfl (by decide +kernel)
theorem dmX13_offerRow_31 : decode cX13_offerRow 31 = .ok (.goto (-28), 3) := dw_at cX13_offerRow_k1 (p := 5) rfl (by decide +kernel)
theorem dmX13_offerRow_34 : decode cX13_offerRow 34 = .ok (.iload_n 2, 1) := dw_at cX13_offerRow_k1 (p := 8) rfl (by decide +kernel)
theorem dmX13_offerRow_35 : decode cX13_offerRow 35 = .ok (.iload_n 3, 1) := dw_at cX13_offerRow_k1 (p := 9) rfl (by decide +kernel)
theorem dmX13_offerRow_36 : decode cX13_offerRow 36 = .ok (.if_icmp .ne 5, 3) := dw_at cX13_offerRow_k1 (p := 10) rfl (by decide +kernel)
theorem dmX13_offerRow_39 : decode cX13_offerRow 39 = .ok (.iload_n 2, 1) := dw_at cX13_offerRow_k1 (p := 13) rfl (by decide +kernel)
theorem dmX13_offerRow_40 : decode cX13_offerRow 40 = .ok (.ireturn, 1) := dw_at cX13_offerRow_k1 (p := 14) rfl (by decide +kernel)
theorem dmX13_offerRow_41 : decode cX13_offerRow 41 = .ok (.iconst 0, 1) := dw_at cX13_offerRow_k1 (p := 15) rfl (by decide +kernel)
theorem dmX13_offerRow_42 : decode cX13_offerRow 42 = .ok (.istore 4, 2) := dw_at cX13_offerRow_k1 (p := 16) rfl (by decide +kernel)
theorem dmX13_offerRow_44 : decode cX13_offerRow 44 = .ok (.iload 4, 2) := dw_at cX13_offerRow_k1 (p := 18) rfl (by decide +kernel)
theorem dmX13_offerRow_46 : decode cX13_offerRow 46 = .ok (.aload_n 0, 1) := dw_at cX13_offerRow_k1 (p := 20) rfl (by decide +kernel)
theorem dmX13_offerRow_47 : decode cX13_offerRow 47 = .ok (.getfield 149, 3) := dw_at cX13_offerRow_k1 (p := 21) rfl (by decide +kernel)
theorem dmX13_offerRow_50 : decode cX13_offerRow 50 = .ok (.iconst 0, 1) := dw_at cX13_offerRow_k2 (p := 0) rfl (by decide +kernel)
theorem dmX13_offerRow_51 : decode cX13_offerRow 51 = .ok (.iaload, 1) := dw_at cX13_offerRow_k2 (p := 1) rfl (by decide +kernel)
theorem dmX13_offerRow_52 : decode cX13_offerRow 52 = .ok (.if_icmp .gt 25, 3) := dw_at cX13_offerRow_k2 (p := 2) rfl (by decide +kernel)
theorem dmX13_offerRow_55 : decode cX13_offerRow 55 = .ok (.aload_n 1, 1) := dw_at cX13_offerRow_k2 (p := 5) rfl (by decide +kernel)
theorem dmX13_offerRow_56 : decode cX13_offerRow 56 = .ok (.bipush 32, 2) := dw_at cX13_offerRow_k2 (p := 6) rfl (by decide +kernel)
theorem dmX13_offerRow_58 : decode cX13_offerRow 58 = .ok (.iload_n 2, 1) := dw_at cX13_offerRow_k2 (p := 8) rfl (by decide +kernel)
theorem dmX13_offerRow_59 : decode cX13_offerRow 59 = .ok (.imul, 1) := dw_at cX13_offerRow_k2 (p := 9) rfl (by decide +kernel)
theorem dmX13_offerRow_60 : decode cX13_offerRow 60 = .ok (.iload 4, 2) := dw_at cX13_offerRow_k2 (p := 10) rfl (by decide +kernel)
theorem dmX13_offerRow_62 : decode cX13_offerRow 62 = .ok (.iadd, 1) := dw_at cX13_offerRow_k2 (p := 12) rfl (by decide +kernel)
theorem dmX13_offerRow_63 : decode cX13_offerRow 63 = .ok (.aload_n 0, 1) := dw_at cX13_offerRow_k2 (p := 13) rfl (by decide +kernel)
theorem dmX13_offerRow_64 : decode cX13_offerRow 64 = .ok (.getfield 149, 3) := dw_at cX13_offerRow_k2 (p := 14) rfl (by decide +kernel)
theorem dmX13_offerRow_67 : decode cX13_offerRow 67 = .ok (.iload 4, 2) := dw_at cX13_offerRow_k2 (p := 17) rfl (by decide +kernel)
theorem dmX13_offerRow_69 : decode cX13_offerRow 69 = .ok (.iaload, 1) := dw_at cX13_offerRow_k2 (p := 19) rfl (by decide +kernel)
theorem dmX13_offerRow_70 : decode cX13_offerRow 70 = .ok (.iastore, 1) := dw_at cX13_offerRow_k2 (p := 20) rfl (by decide +kernel)
theorem dmX13_offerRow_71 : decode cX13_offerRow 71 = .ok (.iinc 4 1, 3) := dw_at cX13_offerRow_k2 (p := 21) rfl (by decide +kernel)
theorem dmX13_offerRow_74 : decode cX13_offerRow 74 = .ok (.goto (-30), 3) := dw_at cX13_offerRow_k2 (p := 24) rfl (by decide +kernel)
theorem dmX13_offerRow_77 : decode cX13_offerRow 77 = .ok (.iload_n 2, 1) := dw_at cX13_offerRow_k2 (p := 27) rfl (by decide +kernel)
theorem dmX13_offerRow_78 : decode cX13_offerRow 78 = .ok (.iconst 1, 1) := dw_at cX13_offerRow_k2 (p := 28) rfl (by decide +kernel)
theorem dmX13_offerRow_79 : decode cX13_offerRow 79 = .ok (.iadd, 1) := dw_at cX13_offerRow_k2 (p := 29) rfl (by decide +kernel)
theorem dmX13_offerRow_80 : decode cX13_offerRow 80 = .ok (.ireturn, 1) := dw_at cX13_offerRow_k2 (p := 30) rfl (by decide +kernel)
def qm_X13_offerRow_0 (K : Nat) (go : Nat → Int32 → Int32 → Int32 → Nat → ow_MS → Option (Int32 × ow_MS)) (x2 : Int32) (x3 : Int32) (x4 : Int32) (r1 : Nat) (z : ow_MS) : Option (Int32 × ow_MS) :=
 go 1 x2 x3 0 r1 z
def qm_X13_offerRow_1 (K : Nat) (go : Nat → Int32 → Int32 → Int32 → Nat → ow_MS → Option (Int32 × ow_MS)) (x2 : Int32) (x3 : Int32) (x4 : Int32) (r1 : Nat) (z : ow_MS) : Option (Int32 × ow_MS) :=
 (if x2 ≤ x4 then (if x2 = x3 then some (x2, z)
 else go 2 x2 x3 0 r1 z)
 else cs1 (qe_X13_isSame K 27 0 r1 (32 * x4) z) fun v2 z1 => (if v2 = 0 then go 1 x2 x3 (x4 + 1) r1 z1
 else some (x2, z1)))
def qm_X13_offerRow_2 (K : Nat) (go : Nat → Int32 → Int32 → Int32 → Nat → ow_MS → Option (Int32 × ow_MS)) (x2 : Int32) (x3 : Int32) (x4 : Int32) (r1 : Nat) (z : ow_MS) : Option (Int32 × ow_MS) :=
 rdI mX z 27 0 fun v3 => (if v3 < x4 then some ((x2 + 1), z)
 else rdI mX z 27 x4 fun v4 => wrI mX z r1 ((32 * x2) + x4) v4 fun z5 => go 2 x2 x3 (x4 + 1) r1 z5)
def qb_X13_offerRow (K : Nat) (go : Nat → Int32 → Int32 → Int32 → Nat → ow_MS → Option (Int32 × ow_MS)) (L : Nat) (x2 : Int32) (x3 : Int32) (x4 : Int32) (r1 : Nat) (z : ow_MS) : Option (Int32 × ow_MS) := match L with
  | 0 => qm_X13_offerRow_0 K go x2 x3 x4 r1 z
  | 1 => qm_X13_offerRow_1 K go x2 x3 x4 r1 z
  | 2 => qm_X13_offerRow_2 K go x2 x3 x4 r1 z
  | _ => none
def q_X13_offerRow (K : Nat) : Nat → Nat → Int32 → Int32 → Int32 → Nat → ow_MS → Option (Int32 × ow_MS)
  | 0 => fun _ _ _ _ _ _ => none
  | k + 1 => qb_X13_offerRow K (q_X13_offerRow K k)
def qe_X13_offerRow (K : Nat) (r1 : Nat) (x2 : Int32) (x3 : Int32) (z : ow_MS) : Option (Int32 × ow_MS) := q_X13_offerRow K K 0 x2 x3 0 r1 z
abbrev wm_X13_offerRow : List Cond := .code yX13_offerRow cX13_offerRow 5 (some .int) :: wM
theorem cd_X13_offerRow : yX13_offerRow.cls = RX13 ∧ yX13_offerRow.cls ≠ "java/lang/invoke/MethodHandle" ∧ yX13_offerRow.cls ≠ "java/lang/invoke/VarHandle" ∧ (parseMethodDescriptor yX13_offerRow.desc).map (fun d => d.parameters.length) = some 3 := by decide +kernel
set_option maxHeartbeats 4000000 in
set_option maxRecDepth 100000 in
theorem km_X13_offerRow (l : Launch) (D : va_G) (q : ow_Q5) (u : Nat → Nat) (hU : tw_inj mX u) (K : Nat) (r1 : Nat) (x2 : Int32) (x3 : Int32) (hr1 : tw_in mX r1 0) (z z1 : ow_MS) (r : Int32) (hq : qe_X13_offerRow K r1 x2 x3 z = some (r, z1)) : Met l yX13_offerRow wm_X13_offerRow ({ frames := 1, cells := 0, slots := 0, locals := 24 } : Room) (va_Pc [.ref (u 0), .ref (u r1), .int x2, .int x3] (mw_pre D q u z)) (va_Qi (fun x (_ : Unit) => x = r) (fun _ t => va_P D vwCl (tw mX q u z1) t.heap) (tw_A mX u)) 0 0 (tw_A mX u) := by
  refine Met.ofW (cc := cX13_offerRow) (maxL := 5) (ret := (some .int)) (by decide) rfl ?_
  intro p e s m args below meth c s₁ B hml hv
  obtain ⟨rfl, hP, hK, hN⟩ := hv
  have hx := B.exec
  have hb := B.bytes
  have hr := B.returns
  have hts := atoms_spec (ws := wm_X13_offerRow) B.pre
  have hT : ∀ w ∈ wM, w.before ([.ref (u 0), .ref (u r1), .int x2, .int x3] : List Value).toArray s = true := fun w h => hts w (List.mem_cons_of_mem _ h)
  have hown : s.vm.findClass RX13 = some m.cls := findClass_of_methodNamed B.named
  have hlocks := B.notSynchronized
  have hM : tw_M D vwCl mX q s.heap u z s.heap [] := ⟨hP, va_S.rf⟩
  have hl := lv_entry ([.ref (u 0), .ref (u r1), .int x2, .int x3]) (n := 5) (Nat.le_of_ble_eq_true rfl)
  rw [lg_entry_eq]
  generalize (lg_sl ([.ref (u 0), .ref (u r1), .int x2, .int x3]) ++ List.replicate (5 - (lg_sl ([.ref (u 0), .ref (u r1), .int x2, .int x3])).length) Slot.unset).toArray = ls at hl ⊢
  have hl : lv_has ls 5 [(0, .ref (u 0)), (1, .ref (u r1)), (2, .int x2), (3, .int x3)] := hl
  refine ow_named (fun QQ hQQ => ?_)
  generalize ([.ref (u 0), .ref (u r1), .int x2, .int x3] : List Value).toArray = args at hts hT hQQ ⊢
  have key : ∀ k : Nat, (∀ (x2 : Int32) (x3 : Int32) (x4 : Int32) (r1 : Nat) (z : ow_MS) (H : Heap) (locs : List Loc) (ls : Array Slot), tw_in mX r1 0 → tw_M D vwCl mX q s.heap u z H locs → lv_has ls 5 [(0, .ref (u 0)), (1, .ref (u r1)), (2, .int x2), (3, .int x3)] → q_X13_offerRow K k 0 x2 x3 x4 r1 z = some (r, z1) → W p l e ({ frames := 1, cells := 0, slots := 0, locals := 24 } : Room) s m args below meth c H locs 0 0 QQ (F0 m 0 ls [])) ∧ (∀ (x2 : Int32) (x3 : Int32) (x4 : Int32) (r1 : Nat) (z : ow_MS) (H : Heap) (locs : List Loc) (ls : Array Slot), tw_in mX r1 0 → tw_M D vwCl mX q s.heap u z H locs → lv_has ls 5 [(0, .ref (u 0)), (1, .ref (u r1)), (2, .int x2), (3, .int x3), (4, .int x4)] → q_X13_offerRow K k 1 x2 x3 x4 r1 z = some (r, z1) → W p l e ({ frames := 1, cells := 0, slots := 0, locals := 24 } : Room) s m args below meth c H locs 0 0 QQ (F0 m 3 ls [])) ∧ (∀ (x2 : Int32) (x3 : Int32) (x4 : Int32) (r1 : Nat) (z : ow_MS) (H : Heap) (locs : List Loc) (ls : Array Slot), tw_in mX r1 0 → tw_M D vwCl mX q s.heap u z H locs → lv_has ls 5 [(0, .ref (u 0)), (1, .ref (u r1)), (2, .int x2), (3, .int x3), (4, .int x4)] → q_X13_offerRow K k 2 x2 x3 x4 r1 z = some (r, z1) → W p l e ({ frames := 1, cells := 0, slots := 0, locals := 24 } : Room) s m args below meth c H locs 0 0 QQ (F0 m 44 ls [])) := by
    intro k
    induction k with
    | zero => exact ⟨fun _ _ _ _ _ _ _ _ _ _ _ hq => tw_no hq, fun _ _ _ _ _ _ _ _ _ _ _ hq => tw_no hq, fun _ _ _ _ _ _ _ _ _ _ _ hq => tw_no hq⟩
    | succ k ih =>
      obtain ⟨ih_0, ih_1, ih_2⟩ := ih
      refine ⟨?_, ?_, ?_⟩
      · intro x2 x3 x4 r1 z H locs ls hr1 hM hl hq
        have hq : qm_X13_offerRow_0 K (q_X13_offerRow K k) x2 x3 x4 r1 z = some (r, z1) := hq
        unfold qm_X13_offerRow_0 at hq
        refine lv_iconst (v := 0) hx hb dmX13_offerRow_0 (by decide) ?_
        refine lv_istore (lv' := [(4, .int 0), (0, .ref (u 0)), (1, .ref (u r1)), (2, .int x2), (3, .int x3)]) hx hb dmX13_offerRow_1 hl (by decide) rfl (fun ls hl => ?_)
        exact ih_1 x2 x3 0 r1 z H locs ls hr1 hM (lv_sub hl [1, 2, 3, 4, 0] rfl) hq
      · intro x2 x3 x4 r1 z H locs ls hr1 hM hl hq
        have hq : qm_X13_offerRow_1 K (q_X13_offerRow K k) x2 x3 x4 r1 z = some (r, z1) := hq
        unfold qm_X13_offerRow_1 at hq
        refine lv_iload hx hb dmX13_offerRow_3 (lv_at hl 4 rfl) ?_
        refine lv_iload_n hx hb dmX13_offerRow_5 rfl (lv_at hl 2 rfl) ?_
        refine lv_icmp_ge (tgt := 34) hx hb dmX13_offerRow_6 (by decide) (fun hc => ?_) (fun hc => ?_)
        · have hq := tw_it hq hc
          refine lv_iload_n hx hb dmX13_offerRow_34 rfl (lv_at hl 2 rfl) ?_
          refine lv_iload_n hx hb dmX13_offerRow_35 rfl (lv_at hl 3 rfl) ?_
          refine lv_icmp_ne (tgt := 41) hx hb dmX13_offerRow_36 (by decide) (fun hc => ?_) (fun hc => ?_)
          · have hq := tw_if hq hc
            refine lv_iconst (v := 0) hx hb dmX13_offerRow_41 (by decide) ?_
            refine lv_istore (lv' := [(4, .int 0), (0, .ref (u 0)), (1, .ref (u r1)), (2, .int x2), (3, .int x3)]) hx hb dmX13_offerRow_42 hl (by decide) rfl (fun ls hl => ?_)
            exact ih_2 x2 x3 0 r1 z H locs ls hr1 hM (lv_sub hl [1, 2, 3, 4, 0] rfl) hq
          · have hq := tw_it hq hc
            refine lv_iload_n hx hb dmX13_offerRow_39 rfl (lv_at hl 2 rfl) ?_
            exact mw_iret hx hb hr hlocks hM hq hQQ dmX13_offerRow_40
        · have hq := tw_if hq hc
          refine lv_aload_n hx hb dmX13_offerRow_9 rfl (lv_at hl 0 rfl) ?_
          refine mg13_149 hx hb hT hown hK hM dmX13_offerRow_10 ?_
          refine lv_iconst (v := 0) hx hb dmX13_offerRow_13 (by decide) ?_
          refine lv_aload_n hx hb dmX13_offerRow_14 rfl (lv_at hl 1 rfl) ?_
          refine lv_bipush (v := 32) hx hb dmX13_offerRow_15 (by decide) ?_
          refine lv_iload hx hb dmX13_offerRow_17 (lv_at hl 4 rfl) ?_
          refine lv_imul hx hb dmX13_offerRow_19 ?_
          obtain ⟨v2, z1, hcq, hq⟩ := tw_cl1 hq
          refine tw_cali hM (va_runS (As := [.ref (u 27), .int 0, .ref (u r1), .int (32 * x4)]) (rest := []) ⟨hx, hb, hml, hown, hts⟩ (km_X13_isSame l D q u hU K 27 0 r1 (32 * x4) mr_27 hr1 z z1 v2 hcq) (va_cwS 4 hts (tw_gS wM_good wq_149 wq_150 wq_61 wq_74) rfl rfl rfl cd_X13_isSame ⟨(Nat.le_of_ble_eq_true rfl), (Nat.le_of_ble_eq_true rfl)⟩) (mw_preS hK hN hM) rfl rfl hl.1 rfl (lv_room (Nat.le_of_ble_eq_true rfl)) dmX13_offerRow_20 ⟨(Nat.le_of_ble_eq_true rfl), (Nat.le_of_ble_eq_true rfl)⟩) (fun H locs hM => ?_)
          refine lv_if_eq (tgt := 28) hx hb dmX13_offerRow_23 (by decide) (fun hc => ?_) (fun hc => ?_)
          · have hq := tw_it hq hc
            refine lv_iinc (v := (x4 + 1)) (lv' := [(4, .int (x4 + 1)), (0, .ref (u 0)), (1, .ref (u r1)), (2, .int x2), (3, .int x3)]) hx hb dmX13_offerRow_28 hl (k := 4) rfl rfl (by decide) rfl (fun ls hl => ?_)
            refine lv_goto (tgt := 3) hx hb dmX13_offerRow_31 (by decide) ?_
            exact ih_1 x2 x3 (x4 + 1) r1 z1 H locs ls hr1 hM (lv_sub hl [1, 2, 3, 4, 0] rfl) hq
          · have hq := tw_if hq hc
            refine lv_iload_n hx hb dmX13_offerRow_26 rfl (lv_at hl 2 rfl) ?_
            exact mw_iret hx hb hr hlocks hM hq hQQ dmX13_offerRow_27
      · intro x2 x3 x4 r1 z H locs ls hr1 hM hl hq
        have hq : qm_X13_offerRow_2 K (q_X13_offerRow K k) x2 x3 x4 r1 z = some (r, z1) := hq
        unfold qm_X13_offerRow_2 at hq
        refine lv_iload hx hb dmX13_offerRow_44 (lv_at hl 4 rfl) ?_
        refine lv_aload_n hx hb dmX13_offerRow_46 rfl (lv_at hl 0 rfl) ?_
        refine mg13_149 hx hb hT hown hK hM dmX13_offerRow_47 ?_
        refine lv_iconst (v := 0) hx hb dmX13_offerRow_50 (by decide) ?_
        refine tw_iald mX_ok hx hb hK hM mr_27 hq dmX13_offerRow_51 (fun v3 hq => ?_)
        refine lv_icmp_gt (tgt := 77) hx hb dmX13_offerRow_52 (by decide) (fun hc => ?_) (fun hc => ?_)
        · have hq := tw_it hq hc
          refine lv_iload_n hx hb dmX13_offerRow_77 rfl (lv_at hl 2 rfl) ?_
          refine lv_iconst (v := 1) hx hb dmX13_offerRow_78 (by decide) ?_
          refine lv_iadd hx hb dmX13_offerRow_79 ?_
          exact mw_iret hx hb hr hlocks hM hq hQQ dmX13_offerRow_80
        · have hq := tw_if hq hc
          refine lv_aload_n hx hb dmX13_offerRow_55 rfl (lv_at hl 1 rfl) ?_
          refine lv_bipush (v := 32) hx hb dmX13_offerRow_56 (by decide) ?_
          refine lv_iload_n hx hb dmX13_offerRow_58 rfl (lv_at hl 2 rfl) ?_
          refine lv_imul hx hb dmX13_offerRow_59 ?_
          refine lv_iload hx hb dmX13_offerRow_60 (lv_at hl 4 rfl) ?_
          refine lv_iadd hx hb dmX13_offerRow_62 ?_
          refine lv_aload_n hx hb dmX13_offerRow_63 rfl (lv_at hl 0 rfl) ?_
          refine mg13_149 hx hb hT hown hK hM dmX13_offerRow_64 ?_
          refine lv_iload hx hb dmX13_offerRow_67 (lv_at hl 4 rfl) ?_
          refine tw_iald mX_ok hx hb hK hM mr_27 hq dmX13_offerRow_69 (fun v4 hq => ?_)
          refine tw_iast mX_ok hU hx hb hK hM hr1 hq dmX13_offerRow_70 (fun z5 H locs hM hq => ?_)
          refine lv_iinc (v := (x4 + 1)) (lv' := [(4, .int (x4 + 1)), (0, .ref (u 0)), (1, .ref (u r1)), (2, .int x2), (3, .int x3)]) hx hb dmX13_offerRow_71 hl (k := 4) rfl rfl (by decide) rfl (fun ls hl => ?_)
          refine lv_goto (tgt := 44) hx hb dmX13_offerRow_74 (by decide) ?_
          exact ih_2 x2 x3 (x4 + 1) r1 z5 H locs ls hr1 hM (lv_sub hl [1, 2, 3, 4, 0] rfl) hq
  exact (key K).1 x2 x3 0 r1 z s.heap [] ls hr1 hM (lv_sub hl [0, 1, 2, 3] rfl) hq
theorem dmX13_offer_0 : decode cX13_offer 0 = .ok (.aload_n 0, 1) := dw_at cX13_offer_k0 (p := 0) rfl (by decide +kernel)
theorem dmX13_offer_1 : decode cX13_offer 1 = .ok (.aload_n 0, 1) := dw_at cX13_offer_k0 (p := 1) rfl (by decide +kernel)
theorem dmX13_offer_2 : decode cX13_offer 2 = .ok (.getfield 121, 3) := dw_at cX13_offer_k0 (p := 2) rfl (by decide +kernel)
theorem dmX13_offer_5 : decode cX13_offer 5 = .ok (.aload_n 0, 1) := dw_at cX13_offer_k0 (p := 5) rfl (by decide +kernel)
theorem dmX13_offer_6 : decode cX13_offer 6 = .ok (.getfield 149, 3) := dw_at cX13_offer_k0 (p := 6) rfl (by decide +kernel)
theorem dmX13_offer_9 : decode cX13_offer 9 = .ok (.iconst 0, 1) := dw_at cX13_offer_k0 (p := 9) rfl (by decide +kernel)
theorem dmX13_offer_10 : decode cX13_offer 10 = .ok (.invokevirtual 396, 3) := dw_at cX13_offer_k0 (p := 10) rfl (by decide +kernel)
theorem dmX13_offer_13 : decode cX13_offer 13 = .ok (.aload_n 0, 1) := dw_at cX13_offer_k0 (p := 13) rfl (by decide +kernel)
theorem dmX13_offer_14 : decode cX13_offer 14 = .ok (.getfield 465, 3) := dw_at cX13_offer_k0 (p := 14) rfl (by decide +kernel)
theorem dmX13_offer_17 : decode cX13_offer 17 = .ok (.tableswitch 81 0 2 #[27, 34, 59], 27) := by decide +kernel
theorem dmX13_offer_44 : decode cX13_offer 44 = .ok (.aload_n 0, 1) := dw_at cX13_offer_k1 (p := 0) rfl (by decide +kernel)
theorem dmX13_offer_45 : decode cX13_offer 45 = .ok (.invokevirtual 468, 3) := dw_at cX13_offer_k1 (p := 1) rfl (by decide +kernel)
theorem dmX13_offer_48 : decode cX13_offer 48 = .ok (.goto 69, 3) := dw_at cX13_offer_k1 (p := 4) rfl (by decide +kernel)
theorem dmX13_offer_51 : decode cX13_offer 51 = .ok (.aload_n 0, 1) := dw_at cX13_offer_k1 (p := 7) rfl (by decide +kernel)
theorem dmX13_offer_52 : decode cX13_offer 52 = .ok (.dup, 1) := dw_at cX13_offer_k1 (p := 8) rfl (by decide +kernel)
theorem dmX13_offer_53 : decode cX13_offer 53 = .ok (.getfield 471, 3) := dw_at cX13_offer_k1 (p := 9) rfl (by decide +kernel)
theorem dmX13_offer_56 : decode cX13_offer 56 = .ok (.aload_n 0, 1) := dw_at cX13_offer_k1 (p := 12) rfl (by decide +kernel)
theorem dmX13_offer_57 : decode cX13_offer 57 = .ok (.getfield 149, 3) := dw_at cX13_offer_k1 (p := 13) rfl (by decide +kernel)
theorem dmX13_offer_60 : decode cX13_offer 60 = .ok (.iconst 0, 1) := dw_at cX13_offer_k1 (p := 16) rfl (by decide +kernel)
theorem dmX13_offer_61 : decode cX13_offer 61 = .ok (.aload_n 0, 1) := dw_at cX13_offer_k1 (p := 17) rfl (by decide +kernel)
theorem dmX13_offer_62 : decode cX13_offer 62 = .ok (.getfield 152, 3) := dw_at cX13_offer_k1 (p := 18) rfl (by decide +kernel)
theorem dmX13_offer_65 : decode cX13_offer 65 = .ok (.iconst 0, 1) := dw_at cX13_offer_k1 (p := 21) rfl (by decide +kernel)
theorem dmX13_offer_66 : decode cX13_offer 66 = .ok (.invokestatic 445, 3) := dw_at cX13_offer_k1 (p := 22) rfl (by decide +kernel)
theorem dmX13_offer_69 : decode cX13_offer 69 = .ok (.ior, 1) := dw_at cX13_offer_k2 (p := 0) rfl (by decide +kernel)
theorem dmX13_offer_70 : decode cX13_offer 70 = .ok (.putfield 471, 3) := dw_at cX13_offer_k2 (p := 1) rfl (by decide +kernel)
theorem dmX13_offer_73 : decode cX13_offer 73 = .ok (.goto 44, 3) := dw_at cX13_offer_k2 (p := 4) rfl (by decide +kernel)
theorem dmX13_offer_76 : decode cX13_offer 76 = .ok (.aload_n 0, 1) := dw_at cX13_offer_k2 (p := 7) rfl (by decide +kernel)
theorem dmX13_offer_77 : decode cX13_offer 77 = .ok (.aload_n 0, 1) := dw_at cX13_offer_k2 (p := 8) rfl (by decide +kernel)
theorem dmX13_offer_78 : decode cX13_offer 78 = .ok (.aload_n 0, 1) := dw_at cX13_offer_k2 (p := 9) rfl (by decide +kernel)
theorem dmX13_offer_79 : decode cX13_offer 79 = .ok (.getfield 143, 3) := dw_at cX13_offer_k2 (p := 10) rfl (by decide +kernel)
theorem dmX13_offer_82 : decode cX13_offer 82 = .ok (.aload_n 0, 1) := dw_at cX13_offer_k2 (p := 13) rfl (by decide +kernel)
theorem dmX13_offer_83 : decode cX13_offer 83 = .ok (.getfield 475, 3) := dw_at cX13_offer_k2 (p := 14) rfl (by decide +kernel)
theorem dmX13_offer_86 : decode cX13_offer 86 = .ok (.sipush 1000, 3) := dw_at cX13_offer_k2 (p := 17) rfl (by decide +kernel)
theorem dmX13_offer_89 : decode cX13_offer 89 = .ok (.invokevirtual 478, 3) := dw_at cX13_offer_k2 (p := 20) rfl (by decide +kernel)
theorem dmX13_offer_92 : decode cX13_offer 92 = .ok (.putfield 475, 3) := dw_at cX13_offer_k2 (p := 23) rfl (by decide +kernel)
theorem dmX13_offer_95 : decode cX13_offer 95 = .ok (.goto 22, 3) := dw_at cX13_offer_k3 (p := 0) rfl (by decide +kernel)
theorem dmX13_offer_98 : decode cX13_offer 98 = .ok (.aload_n 0, 1) := dw_at cX13_offer_k3 (p := 3) rfl (by decide +kernel)
theorem dmX13_offer_99 : decode cX13_offer 99 = .ok (.aload_n 0, 1) := dw_at cX13_offer_k3 (p := 4) rfl (by decide +kernel)
theorem dmX13_offer_100 : decode cX13_offer 100 = .ok (.aload_n 0, 1) := dw_at cX13_offer_k3 (p := 5) rfl (by decide +kernel)
theorem dmX13_offer_101 : decode cX13_offer 101 = .ok (.getfield 146, 3) := dw_at cX13_offer_k3 (p := 6) rfl (by decide +kernel)
theorem dmX13_offer_104 : decode cX13_offer 104 = .ok (.aload_n 0, 1) := dw_at cX13_offer_k3 (p := 9) rfl (by decide +kernel)
theorem dmX13_offer_105 : decode cX13_offer 105 = .ok (.getfield 482, 3) := dw_at cX13_offer_k3 (p := 10) rfl (by decide +kernel)
theorem dmX13_offer_108 : decode cX13_offer 108 = .ok (.sipush 310, 3) := dw_at cX13_offer_k3 (p := 13) rfl (by decide +kernel)
theorem dmX13_offer_111 : decode cX13_offer 111 = .ok (.invokevirtual 478, 3) := dw_at cX13_offer_k3 (p := 16) rfl (by decide +kernel)
theorem dmX13_offer_114 : decode cX13_offer 114 = .ok (.putfield 482, 3) := dw_at cX13_offer_k3 (p := 19) rfl (by decide +kernel)
theorem dmX13_offer_117 : decode cX13_offer 117 = .ok (.return_, 1) := dw_at cX13_offer_k3 (p := 22) rfl (by decide +kernel)
def qm_X13_offer_0 (K : Nat)  (z : ow_MS) : Option ow_MS :=
 cs0 (qe_X13_pack K 3000 27 0 z) fun z1 => rdF z1 30 fun v2 => (if v2.toInt < 0 ∨ 2 < v2.toInt then rdF z1 26 fun v3 => cs1 (qe_X13_offerRow K 25 v3 310 z1) fun v5 z4 => wrF z4 26 v5 fun z6 => some z6
 else (if v2 = 0 then cs0 (qe_X13_offerList K z1) fun z7 => some z7
 else (if v2 = 1 then rdF z1 29 fun v8 => cs1 (qe_X13_isSame K 27 0 28 0 z1) fun v10 z9 => okZ (v8 ||| v10) (wrF z9 29 (v8 ||| v10) fun z11 => some z11)
 else (if v2 = 2 then rdF z1 24 fun v12 => cs1 (qe_X13_offerRow K 23 v12 1000 z1) fun v14 z13 => wrF z13 24 v14 fun z15 => some z15
 else none))))
def qe_X13_offer (K : Nat)  (z : ow_MS) : Option ow_MS := qm_X13_offer_0 K z
abbrev wm_X13_offer : List Cond := .code yX13_offer cX13_offer 1 none :: wM
theorem cd_X13_offer : yX13_offer.cls = RX13 ∧ yX13_offer.cls ≠ "java/lang/invoke/MethodHandle" ∧ yX13_offer.cls ≠ "java/lang/invoke/VarHandle" ∧ (parseMethodDescriptor yX13_offer.desc).map (fun d => d.parameters.length) = some 0 := by decide +kernel
set_option maxHeartbeats 4000000 in
set_option maxRecDepth 100000 in
theorem km_X13_offer (l : Launch) (D : va_G) (q : ow_Q5) (u : Nat → Nat) (hU : tw_inj mX u) (K : Nat)   (z z1 : ow_MS) (hq : qe_X13_offer K  z = some z1) : Met l yX13_offer wm_X13_offer ({ frames := 4, cells := 0, slots := 0, locals := 111 } : Room) (va_Pc [.ref (u 0)] (mw_pre D q u z)) (va_Qv (fun (_ : Unit) => True) (fun _ t => va_P D vwCl (tw mX q u z1) t.heap) (tw_A mX u)) 0 0 (tw_A mX u) := by
  refine Met.ofW (cc := cX13_offer) (maxL := 1) (ret := none) (by decide) rfl ?_
  intro p e s m args below meth c s₁ B hml hv
  obtain ⟨rfl, hP, hK, hN⟩ := hv
  have hx := B.exec
  have hb := B.bytes
  have hr := B.returns
  have hts := atoms_spec (ws := wm_X13_offer) B.pre
  have hT : ∀ w ∈ wM, w.before ([.ref (u 0)] : List Value).toArray s = true := fun w h => hts w (List.mem_cons_of_mem _ h)
  have hown : s.vm.findClass RX13 = some m.cls := findClass_of_methodNamed B.named
  have hlocks := B.notSynchronized
  have hM : tw_M D vwCl mX q s.heap u z s.heap [] := ⟨hP, va_S.rf⟩
  have hl := lv_entry ([.ref (u 0)]) (n := 1) (Nat.le_of_ble_eq_true rfl)
  rw [lg_entry_eq]
  generalize (lg_sl ([.ref (u 0)]) ++ List.replicate (1 - (lg_sl ([.ref (u 0)])).length) Slot.unset).toArray = ls at hl ⊢
  have hl : lv_has ls 1 [(0, .ref (u 0))] := hl
  refine ow_named (fun QQ hQQ => ?_)
  generalize ([.ref (u 0)] : List Value).toArray = args at hts hT hQQ ⊢
  have hq : qm_X13_offer_0 K  z = some z1 := hq
  unfold qm_X13_offer_0 at hq
  suffices key : ∀ (H : Heap) (locs : List Loc), tw_M D vwCl mX q s.heap u z H locs → W p l e ({ frames := 4, cells := 0, slots := 0, locals := 111 } : Room) s m args below meth c H locs 0 0 QQ (F0 m 0 ls []) from key s.heap [] hM
  intro H locs hM
  refine lv_aload_n hx hb dmX13_offer_0 rfl (lv_at hl 0 rfl) ?_
  refine lv_aload_n hx hb dmX13_offer_1 rfl (lv_at hl 0 rfl) ?_
  refine mg13_121 hx hb hT hown hK hM dmX13_offer_2 ?_
  refine lv_aload_n hx hb dmX13_offer_5 rfl (lv_at hl 0 rfl) ?_
  refine mg13_149 hx hb hT hown hK hM dmX13_offer_6 ?_
  refine lv_iconst (v := 0) hx hb dmX13_offer_9 (by decide) ?_
  obtain ⟨z1, hcq, hq⟩ := tw_cl0 hq
  refine tw_calv hM (va_runV (As := [.ref (u 3000), .ref (u 27), .int 0]) (rest := []) ⟨hx, hb, hml, hown, hts⟩ (km_X13_pack l D q u hU K 3000 27 0 mw_n3 mr_27 z z1 hcq) (cwV 3 hts (tw_gV wM_good wq_96 wq_97 wq_98 wq_61 wq_84) rfl rfl rfl cd_X13_pack ⟨(Nat.le_of_ble_eq_true rfl), (Nat.le_of_ble_eq_true rfl)⟩) (mw_preV hK hN hM mo_0 rfl) rfl rfl hl.1 rfl (lv_room (Nat.le_of_ble_eq_true rfl)) dmX13_offer_10 ⟨(Nat.le_of_ble_eq_true rfl), (Nat.le_of_ble_eq_true rfl)⟩) (fun H locs hM => ?_)
  refine lv_aload_n hx hb dmX13_offer_13 rfl (lv_at hl 0 rfl) ?_
  refine mg13_465 hx hb hT hown hK hM hq dmX13_offer_14 (fun v2 hq => ?_)
  by_cases hc : v2.toInt < 0 ∨ 2 < v2.toInt
  · have hq := tw_it hq hc
    refine lv_tableOut (tgt := 98) hx hb dmX13_offer_17 hc (by decide) ?_
    refine lv_aload_n hx hb dmX13_offer_98 rfl (lv_at hl 0 rfl) ?_
    refine lv_aload_n hx hb dmX13_offer_99 rfl (lv_at hl 0 rfl) ?_
    refine lv_aload_n hx hb dmX13_offer_100 rfl (lv_at hl 0 rfl) ?_
    refine mg13_146 hx hb hT hown hK hM dmX13_offer_101 ?_
    refine lv_aload_n hx hb dmX13_offer_104 rfl (lv_at hl 0 rfl) ?_
    refine mg13_482 hx hb hT hown hK hM hq dmX13_offer_105 (fun v3 hq => ?_)
    refine lv_sipush (v := 310) hx hb dmX13_offer_108 (by decide) ?_
    obtain ⟨v5, z4, hcq, hq⟩ := tw_cl1 hq
    refine tw_cali hM (va_runV (As := [.ref (u 25), .int v3, .int 310]) (rest := [.ref (u 0)]) ⟨hx, hb, hml, hown, hts⟩ (km_X13_offerRow l D q u hU K 25 v3 310 mr_25 z1 z4 v5 hcq) (cwV 3 hts (tw_gV wM_good wq_187 wq_188 wq_189 wq_61 wq_190) rfl rfl rfl cd_X13_offerRow ⟨(Nat.le_of_ble_eq_true rfl), (Nat.le_of_ble_eq_true rfl)⟩) (mw_preV hK hN hM mo_0 rfl) rfl rfl hl.1 rfl (lv_room (Nat.le_of_ble_eq_true rfl)) dmX13_offer_111 ⟨(Nat.le_of_ble_eq_true rfl), (Nat.le_of_ble_eq_true rfl)⟩) (fun H locs hM => ?_)
    refine mp13_482 hx hb hT hown hK hM hU hq dmX13_offer_114 (fun z6 H locs hM hq => ?_)
    exact mw_vret hx hb hr hlocks hM hq hQQ dmX13_offer_117
  · have hq := tw_if hq hc
    by_cases hc : v2 = 0
    · have hq := tw_it hq hc
      refine ow_topi (y := 0) hc ?_
      refine lv_tableIn (x := 0) (tgt := 44) hx hb dmX13_offer_17 (by decide) (by decide) rfl (by decide) ?_
      refine lv_aload_n hx hb dmX13_offer_44 rfl (lv_at hl 0 rfl) ?_
      obtain ⟨z7, hcq, hq⟩ := tw_cl0 hq
      refine tw_calv hM (va_runV (As := []) (rest := []) ⟨hx, hb, hml, hown, hts⟩ (km_X13_offerList l D q u hU K z1 z7 hcq) (cwV 0 hts (tw_gV wM_good wq_178 wq_179 wq_180 wq_61 wq_181) rfl rfl rfl cd_X13_offerList ⟨(Nat.le_of_ble_eq_true rfl), (Nat.le_of_ble_eq_true rfl)⟩) (mw_preV hK hN hM mo_0 rfl) rfl rfl hl.1 rfl (lv_room (Nat.le_of_ble_eq_true rfl)) dmX13_offer_45 ⟨(Nat.le_of_ble_eq_true rfl), (Nat.le_of_ble_eq_true rfl)⟩) (fun H locs hM => ?_)
      refine lv_goto (tgt := 117) hx hb dmX13_offer_48 (by decide) ?_
      exact mw_vret hx hb hr hlocks hM hq hQQ dmX13_offer_117
    · have hq := tw_if hq hc
      by_cases hc : v2 = 1
      · have hq := tw_it hq hc
        refine ow_topi (y := 1) hc ?_
        refine lv_tableIn (x := 1) (tgt := 51) hx hb dmX13_offer_17 (by decide) (by decide) rfl (by decide) ?_
        refine lv_aload_n hx hb dmX13_offer_51 rfl (lv_at hl 0 rfl) ?_
        refine lv_dup hx hb dmX13_offer_52 rfl ?_
        refine mg13_471 hx hb hT hown hK hM hq dmX13_offer_53 (fun v8 hq => ?_)
        refine lv_aload_n hx hb dmX13_offer_56 rfl (lv_at hl 0 rfl) ?_
        refine mg13_149 hx hb hT hown hK hM dmX13_offer_57 ?_
        refine lv_iconst (v := 0) hx hb dmX13_offer_60 (by decide) ?_
        refine lv_aload_n hx hb dmX13_offer_61 rfl (lv_at hl 0 rfl) ?_
        refine mg13_152 hx hb hT hown hK hM dmX13_offer_62 ?_
        refine lv_iconst (v := 0) hx hb dmX13_offer_65 (by decide) ?_
        obtain ⟨v10, z9, hcq, hq⟩ := tw_cl1 hq
        refine tw_cali hM (va_runS (As := [.ref (u 27), .int 0, .ref (u 28), .int 0]) (rest := [.int v8, .ref (u 0)]) ⟨hx, hb, hml, hown, hts⟩ (km_X13_isSame l D q u hU K 27 0 28 0 mr_27 mr_28 z1 z9 v10 hcq) (va_cwS 4 hts (tw_gS wM_good wq_149 wq_150 wq_61 wq_74) rfl rfl rfl cd_X13_isSame ⟨(Nat.le_of_ble_eq_true rfl), (Nat.le_of_ble_eq_true rfl)⟩) (mw_preS hK hN hM) rfl rfl hl.1 rfl (lv_room (Nat.le_of_ble_eq_true rfl)) dmX13_offer_66 ⟨(Nat.le_of_ble_eq_true rfl), (Nat.le_of_ble_eq_true rfl)⟩) (fun H locs hM => ?_)
        refine lv_ior hx hb dmX13_offer_69 ?_
        obtain ⟨hz, hq⟩ := tw_gZ hq
        refine mp13_471 hx hb hT hown hK hM hU hz hq dmX13_offer_70 (fun z11 H locs hM hq => ?_)
        refine lv_goto (tgt := 117) hx hb dmX13_offer_73 (by decide) ?_
        exact mw_vret hx hb hr hlocks hM hq hQQ dmX13_offer_117
      · have hq := tw_if hq hc
        by_cases hc : v2 = 2
        · have hq := tw_it hq hc
          refine ow_topi (y := 2) hc ?_
          refine lv_tableIn (x := 2) (tgt := 76) hx hb dmX13_offer_17 (by decide) (by decide) rfl (by decide) ?_
          refine lv_aload_n hx hb dmX13_offer_76 rfl (lv_at hl 0 rfl) ?_
          refine lv_aload_n hx hb dmX13_offer_77 rfl (lv_at hl 0 rfl) ?_
          refine lv_aload_n hx hb dmX13_offer_78 rfl (lv_at hl 0 rfl) ?_
          refine mg13_143 hx hb hT hown hK hM dmX13_offer_79 ?_
          refine lv_aload_n hx hb dmX13_offer_82 rfl (lv_at hl 0 rfl) ?_
          refine mg13_475 hx hb hT hown hK hM hq dmX13_offer_83 (fun v12 hq => ?_)
          refine lv_sipush (v := 1000) hx hb dmX13_offer_86 (by decide) ?_
          obtain ⟨v14, z13, hcq, hq⟩ := tw_cl1 hq
          refine tw_cali hM (va_runV (As := [.ref (u 23), .int v12, .int 1000]) (rest := [.ref (u 0)]) ⟨hx, hb, hml, hown, hts⟩ (km_X13_offerRow l D q u hU K 23 v12 1000 mr_23 z1 z13 v14 hcq) (cwV 3 hts (tw_gV wM_good wq_187 wq_188 wq_189 wq_61 wq_190) rfl rfl rfl cd_X13_offerRow ⟨(Nat.le_of_ble_eq_true rfl), (Nat.le_of_ble_eq_true rfl)⟩) (mw_preV hK hN hM mo_0 rfl) rfl rfl hl.1 rfl (lv_room (Nat.le_of_ble_eq_true rfl)) dmX13_offer_89 ⟨(Nat.le_of_ble_eq_true rfl), (Nat.le_of_ble_eq_true rfl)⟩) (fun H locs hM => ?_)
          refine mp13_475 hx hb hT hown hK hM hU hq dmX13_offer_92 (fun z15 H locs hM hq => ?_)
          refine lv_goto (tgt := 117) hx hb dmX13_offer_95 (by decide) ?_
          exact mw_vret hx hb hr hlocks hM hq hQQ dmX13_offer_117
        · have hq := tw_if hq hc
          cases hq
theorem dmX13_without_0 : decode cX13_without 0 = .ok (.aload_n 0, 1) := dw_at cX13_without_k0 (p := 0) rfl (by decide +kernel)
theorem dmX13_without_1 : decode cX13_without 1 = .ok (.getfield 121, 3) := dw_at cX13_without_k0 (p := 1) rfl (by decide +kernel)
theorem dmX13_without_4 : decode cX13_without 4 = .ok (.invokevirtual 91, 3) := dw_at cX13_without_k0 (p := 4) rfl (by decide +kernel)
theorem dmX13_without_7 : decode cX13_without 7 = .ok (.aload_n 0, 1) := dw_at cX13_without_k0 (p := 7) rfl (by decide +kernel)
theorem dmX13_without_8 : decode cX13_without 8 = .ok (.getfield 121, 3) := dw_at cX13_without_k0 (p := 8) rfl (by decide +kernel)
theorem dmX13_without_11 : decode cX13_without 11 = .ok (.aload_n 1, 1) := dw_at cX13_without_k0 (p := 11) rfl (by decide +kernel)
theorem dmX13_without_12 : decode cX13_without 12 = .ok (.invokevirtual 448, 3) := dw_at cX13_without_k0 (p := 12) rfl (by decide +kernel)
theorem dmX13_without_15 : decode cX13_without 15 = .ok (.iconst 0, 1) := dw_at cX13_without_k0 (p := 15) rfl (by decide +kernel)
theorem dmX13_without_16 : decode cX13_without 16 = .ok (.istore 4, 2) := dw_at cX13_without_k0 (p := 16) rfl (by decide +kernel)
theorem dmX13_without_18 : decode cX13_without 18 = .ok (.iload 4, 2) := dw_at cX13_without_k0 (p := 18) rfl (by decide +kernel)
theorem dmX13_without_20 : decode cX13_without 20 = .ok (.aload_n 1, 1) := dw_at cX13_without_k0 (p := 20) rfl (by decide +kernel)
theorem dmX13_without_21 : decode cX13_without 21 = .ok (.getfield 407, 3) := dw_at cX13_without_k0 (p := 21) rfl (by decide +kernel)
theorem dmX13_without_24 : decode cX13_without 24 = .ok (.if_icmp .ge 88, 3) := dw_at cX13_without_k1 (p := 0) rfl (by decide +kernel)
theorem dmX13_without_27 : decode cX13_without 27 = .ok (.aload_n 1, 1) := dw_at cX13_without_k1 (p := 3) rfl (by decide +kernel)
theorem dmX13_without_28 : decode cX13_without 28 = .ok (.getfield 452, 3) := dw_at cX13_without_k1 (p := 4) rfl (by decide +kernel)
theorem dmX13_without_31 : decode cX13_without 31 = .ok (.iload 4, 2) := dw_at cX13_without_k1 (p := 7) rfl (by decide +kernel)
theorem dmX13_without_33 : decode cX13_without 33 = .ok (.iaload, 1) := dw_at cX13_without_k1 (p := 9) rfl (by decide +kernel)
theorem dmX13_without_34 : decode cX13_without 34 = .ok (.istore 5, 2) := dw_at cX13_without_k1 (p := 10) rfl (by decide +kernel)
theorem dmX13_without_36 : decode cX13_without 36 = .ok (.iload 5, 2) := dw_at cX13_without_k1 (p := 12) rfl (by decide +kernel)
theorem dmX13_without_38 : decode cX13_without 38 = .ok (.aload_n 1, 1) := dw_at cX13_without_k1 (p := 14) rfl (by decide +kernel)
theorem dmX13_without_39 : decode cX13_without 39 = .ok (.getfield 452, 3) := dw_at cX13_without_k1 (p := 15) rfl (by decide +kernel)
theorem dmX13_without_42 : decode cX13_without 42 = .ok (.iload 4, 2) := dw_at cX13_without_k1 (p := 18) rfl (by decide +kernel)
theorem dmX13_without_44 : decode cX13_without 44 = .ok (.iconst 1, 1) := dw_at cX13_without_k1 (p := 20) rfl (by decide +kernel)
theorem dmX13_without_45 : decode cX13_without 45 = .ok (.iadd, 1) := dw_at cX13_without_k1 (p := 21) rfl (by decide +kernel)
theorem dmX13_without_46 : decode cX13_without 46 = .ok (.iaload, 1) := dw_at cX13_without_k1 (p := 22) rfl (by decide +kernel)
theorem dmX13_without_47 : decode cX13_without 47 = .ok (.if_icmp .ge 52, 3) := dw_at cX13_without_k1 (p := 23) rfl (by decide +kernel)
theorem dmX13_without_50 : decode cX13_without 50 = .ok (.aload_n 1, 1) := dw_at cX13_without_k2 (p := 0) rfl (by decide +kernel)
theorem dmX13_without_51 : decode cX13_without 51 = .ok (.getfield 23, 3) := dw_at cX13_without_k2 (p := 1) rfl (by decide +kernel)
theorem dmX13_without_54 : decode cX13_without 54 = .ok (.iload 5, 2) := dw_at cX13_without_k2 (p := 4) rfl (by decide +kernel)
theorem dmX13_without_56 : decode cX13_without 56 = .ok (.iaload, 1) := dw_at cX13_without_k2 (p := 6) rfl (by decide +kernel)
theorem dmX13_without_57 : decode cX13_without 57 = .ok (.iload_n 2, 1) := dw_at cX13_without_k2 (p := 7) rfl (by decide +kernel)
theorem dmX13_without_58 : decode cX13_without 58 = .ok (.if_icmp .eq 35, 3) := dw_at cX13_without_k2 (p := 8) rfl (by decide +kernel)
theorem dmX13_without_61 : decode cX13_without 61 = .ok (.aload_n 1, 1) := dw_at cX13_without_k2 (p := 11) rfl (by decide +kernel)
theorem dmX13_without_62 : decode cX13_without 62 = .ok (.getfield 23, 3) := dw_at cX13_without_k2 (p := 12) rfl (by decide +kernel)
theorem dmX13_without_65 : decode cX13_without 65 = .ok (.iload 5, 2) := dw_at cX13_without_k2 (p := 15) rfl (by decide +kernel)
theorem dmX13_without_67 : decode cX13_without 67 = .ok (.iaload, 1) := dw_at cX13_without_k2 (p := 17) rfl (by decide +kernel)
theorem dmX13_without_68 : decode cX13_without 68 = .ok (.iload_n 3, 1) := dw_at cX13_without_k2 (p := 18) rfl (by decide +kernel)
theorem dmX13_without_69 : decode cX13_without 69 = .ok (.if_icmp .eq 24, 3) := dw_at cX13_without_k2 (p := 19) rfl (by decide +kernel)
theorem dmX13_without_72 : decode cX13_without 72 = .ok (.aload_n 0, 1) := dw_at cX13_without_k2 (p := 22) rfl (by decide +kernel)
theorem dmX13_without_73 : decode cX13_without 73 = .ok (.getfield 121, 3) := dw_at cX13_without_k2 (p := 23) rfl (by decide +kernel)
theorem dmX13_without_76 : decode cX13_without 76 = .ok (.aload_n 1, 1) := dw_at cX13_without_k3 (p := 0) rfl (by decide +kernel)
theorem dmX13_without_77 : decode cX13_without 77 = .ok (.getfield 23, 3) := dw_at cX13_without_k3 (p := 1) rfl (by decide +kernel)
theorem dmX13_without_80 : decode cX13_without 80 = .ok (.iload 5, 2) := dw_at cX13_without_k3 (p := 4) rfl (by decide +kernel)
theorem dmX13_without_82 : decode cX13_without 82 = .ok (.iaload, 1) := dw_at cX13_without_k3 (p := 6) rfl (by decide +kernel)
theorem dmX13_without_83 : decode cX13_without 83 = .ok (.aload_n 1, 1) := dw_at cX13_without_k3 (p := 7) rfl (by decide +kernel)
theorem dmX13_without_84 : decode cX13_without 84 = .ok (.getfield 32, 3) := dw_at cX13_without_k3 (p := 8) rfl (by decide +kernel)
theorem dmX13_without_87 : decode cX13_without 87 = .ok (.iload 5, 2) := dw_at cX13_without_k3 (p := 11) rfl (by decide +kernel)
theorem dmX13_without_89 : decode cX13_without 89 = .ok (.iaload, 1) := dw_at cX13_without_k3 (p := 13) rfl (by decide +kernel)
theorem dmX13_without_90 : decode cX13_without 90 = .ok (.invokevirtual 97, 3) := dw_at cX13_without_k3 (p := 14) rfl (by decide +kernel)
theorem dmX13_without_93 : decode cX13_without 93 = .ok (.iinc 5 1, 3) := dw_at cX13_without_k3 (p := 17) rfl (by decide +kernel)
theorem dmX13_without_96 : decode cX13_without 96 = .ok (.goto (-60), 3) := dw_at cX13_without_k3 (p := 20) rfl (by decide +kernel)
theorem dmX13_without_99 : decode cX13_without 99 = .ok (.aload_n 0, 1) := dw_at cX13_without_k3 (p := 23) rfl (by decide +kernel)
theorem dmX13_without_100 : decode cX13_without 100 = .ok (.getfield 121, 3) := dw_at cX13_without_k4 (p := 0) rfl (by decide +kernel)
theorem dmX13_without_103 : decode cX13_without 103 = .ok (.invokevirtual 94, 3) := dw_at cX13_without_k4 (p := 3) rfl (by decide +kernel)
theorem dmX13_without_106 : decode cX13_without 106 = .ok (.iinc 4 1, 3) := dw_at cX13_without_k4 (p := 6) rfl (by decide +kernel)
theorem dmX13_without_109 : decode cX13_without 109 = .ok (.goto (-91), 3) := dw_at cX13_without_k4 (p := 9) rfl (by decide +kernel)
theorem dmX13_without_112 : decode cX13_without 112 = .ok (.aload_n 0, 1) := dw_at cX13_without_k4 (p := 12) rfl (by decide +kernel)
theorem dmX13_without_113 : decode cX13_without 113 = .ok (.invokevirtual 491, 3) := dw_at cX13_without_k4 (p := 13) rfl (by decide +kernel)
theorem dmX13_without_116 : decode cX13_without 116 = .ok (.return_, 1) := dw_at cX13_without_k4 (p := 16) rfl (by decide +kernel)
def qm_X13_without_0 (K : Nat) (go : Nat → Int32 → Int32 → Int32 → Int32 → Nat → ow_MS → Option ow_MS) (x2 : Int32) (x3 : Int32) (x4 : Int32) (x5 : Int32) (r1 : Nat) (z : ow_MS) : Option ow_MS :=
 cs0 (qe_X12_clear K 3000 z) fun z1 => cs0 (qe_X12_signsOf K 3000 r1 z1) fun z2 => go 1 x2 x3 0 0 r1 z2
def qm_X13_without_1 (K : Nat) (go : Nat → Int32 → Int32 → Int32 → Int32 → Nat → ow_MS → Option ow_MS) (x2 : Int32) (x3 : Int32) (x4 : Int32) (x5 : Int32) (r1 : Nat) (z : ow_MS) : Option ow_MS :=
 rdF z (r1 + 2) fun v3 => (if v3 ≤ x4 then cs0 (qe_X13_offer K z) fun z4 => some z4
 else rdI mX z (r1 + 3) x4 fun v5 => go 2 x2 x3 x4 v5 r1 z)
def qm_X13_without_2 (K : Nat) (go : Nat → Int32 → Int32 → Int32 → Int32 → Nat → ow_MS → Option ow_MS) (x2 : Int32) (x3 : Int32) (x4 : Int32) (x5 : Int32) (r1 : Nat) (z : ow_MS) : Option ow_MS :=
 rdI mX z (r1 + 3) (x4 + 1) fun v6 => (if v6 ≤ x5 then cs0 (qe_X12_end K 3000 z) fun z7 => go 1 x2 x3 (x4 + 1) 0 r1 z7
 else rdI mX z (r1 + 4) x5 fun v8 => (if v8 = x2 then go 3 x2 x3 x4 x5 r1 z
 else rdI mX z (r1 + 4) x5 fun v9 => (if v9 = x3 then go 3 x2 x3 x4 x5 r1 z
 else rdI mX z (r1 + 4) x5 fun v10 => rdI mX z (r1 + 5) x5 fun v11 => cs0 (qe_X12_add K 3000 v10 v11 z) fun z12 => go 3 x2 x3 x4 x5 r1 z12)))
def qm_X13_without_3 (K : Nat) (go : Nat → Int32 → Int32 → Int32 → Int32 → Nat → ow_MS → Option ow_MS) (x2 : Int32) (x3 : Int32) (x4 : Int32) (x5 : Int32) (r1 : Nat) (z : ow_MS) : Option ow_MS :=
 go 2 x2 x3 x4 (x5 + 1) r1 z
def qb_X13_without (K : Nat) (go : Nat → Int32 → Int32 → Int32 → Int32 → Nat → ow_MS → Option ow_MS) (L : Nat) (x2 : Int32) (x3 : Int32) (x4 : Int32) (x5 : Int32) (r1 : Nat) (z : ow_MS) : Option ow_MS := match L with
  | 0 => qm_X13_without_0 K go x2 x3 x4 x5 r1 z
  | 1 => qm_X13_without_1 K go x2 x3 x4 x5 r1 z
  | 2 => qm_X13_without_2 K go x2 x3 x4 x5 r1 z
  | 3 => qm_X13_without_3 K go x2 x3 x4 x5 r1 z
  | _ => none
def q_X13_without (K : Nat) : Nat → Nat → Int32 → Int32 → Int32 → Int32 → Nat → ow_MS → Option ow_MS
  | 0 => fun _ _ _ _ _ _ _ => none
  | k + 1 => qb_X13_without K (q_X13_without K k)
def qe_X13_without (K : Nat) (r1 : Nat) (x2 : Int32) (x3 : Int32) (z : ow_MS) : Option ow_MS := q_X13_without K K 0 x2 x3 0 0 r1 z
abbrev wm_X13_without : List Cond := .code yX13_without cX13_without 6 none :: wM
theorem cd_X13_without : yX13_without.cls = RX13 ∧ yX13_without.cls ≠ "java/lang/invoke/MethodHandle" ∧ yX13_without.cls ≠ "java/lang/invoke/VarHandle" ∧ (parseMethodDescriptor yX13_without.desc).map (fun d => d.parameters.length) = some 3 := by decide +kernel
set_option maxHeartbeats 4000000 in
set_option maxRecDepth 100000 in
theorem km_X13_without (l : Launch) (D : va_G) (q : ow_Q5) (u : Nat → Nat) (hU : tw_inj mX u) (K : Nat) (r1 : Nat) (x2 : Int32) (x3 : Int32) (hr1 : mw_net r1) (z z1 : ow_MS) (hq : qe_X13_without K r1 x2 x3 z = some z1) : Met l yX13_without wm_X13_without ({ frames := 5, cells := 0, slots := 0, locals := 131 } : Room) (va_Pc [.ref (u 0), .ref (u r1), .int x2, .int x3] (mw_pre D q u z)) (va_Qv (fun (_ : Unit) => True) (fun _ t => va_P D vwCl (tw mX q u z1) t.heap) (tw_A mX u)) 0 0 (tw_A mX u) := by
  refine Met.ofW (cc := cX13_without) (maxL := 6) (ret := none) (by decide) rfl ?_
  intro p e s m args below meth c s₁ B hml hv
  obtain ⟨rfl, hP, hK, hN⟩ := hv
  have hx := B.exec
  have hb := B.bytes
  have hr := B.returns
  have hts := atoms_spec (ws := wm_X13_without) B.pre
  have hT : ∀ w ∈ wM, w.before ([.ref (u 0), .ref (u r1), .int x2, .int x3] : List Value).toArray s = true := fun w h => hts w (List.mem_cons_of_mem _ h)
  have hown : s.vm.findClass RX13 = some m.cls := findClass_of_methodNamed B.named
  have hlocks := B.notSynchronized
  have hM : tw_M D vwCl mX q s.heap u z s.heap [] := ⟨hP, va_S.rf⟩
  have hl := lv_entry ([.ref (u 0), .ref (u r1), .int x2, .int x3]) (n := 6) (Nat.le_of_ble_eq_true rfl)
  rw [lg_entry_eq]
  generalize (lg_sl ([.ref (u 0), .ref (u r1), .int x2, .int x3]) ++ List.replicate (6 - (lg_sl ([.ref (u 0), .ref (u r1), .int x2, .int x3])).length) Slot.unset).toArray = ls at hl ⊢
  have hl : lv_has ls 6 [(0, .ref (u 0)), (1, .ref (u r1)), (2, .int x2), (3, .int x3)] := hl
  refine ow_named (fun QQ hQQ => ?_)
  generalize ([.ref (u 0), .ref (u r1), .int x2, .int x3] : List Value).toArray = args at hts hT hQQ ⊢
  have key : ∀ k : Nat, (∀ (x2 : Int32) (x3 : Int32) (x4 : Int32) (x5 : Int32) (r1 : Nat) (z : ow_MS) (H : Heap) (locs : List Loc) (ls : Array Slot), mw_net r1 → tw_M D vwCl mX q s.heap u z H locs → lv_has ls 6 [(0, .ref (u 0)), (1, .ref (u r1)), (2, .int x2), (3, .int x3)] → q_X13_without K k 0 x2 x3 x4 x5 r1 z = some z1 → W p l e ({ frames := 5, cells := 0, slots := 0, locals := 131 } : Room) s m args below meth c H locs 0 0 QQ (F0 m 0 ls [])) ∧ (∀ (x2 : Int32) (x3 : Int32) (x4 : Int32) (x5 : Int32) (r1 : Nat) (z : ow_MS) (H : Heap) (locs : List Loc) (ls : Array Slot), mw_net r1 → tw_M D vwCl mX q s.heap u z H locs → lv_has ls 6 [(0, .ref (u 0)), (1, .ref (u r1)), (2, .int x2), (3, .int x3), (4, .int x4)] → q_X13_without K k 1 x2 x3 x4 x5 r1 z = some z1 → W p l e ({ frames := 5, cells := 0, slots := 0, locals := 131 } : Room) s m args below meth c H locs 0 0 QQ (F0 m 18 ls [])) ∧ (∀ (x2 : Int32) (x3 : Int32) (x4 : Int32) (x5 : Int32) (r1 : Nat) (z : ow_MS) (H : Heap) (locs : List Loc) (ls : Array Slot), mw_net r1 → tw_M D vwCl mX q s.heap u z H locs → lv_has ls 6 [(0, .ref (u 0)), (1, .ref (u r1)), (2, .int x2), (3, .int x3), (4, .int x4), (5, .int x5)] → q_X13_without K k 2 x2 x3 x4 x5 r1 z = some z1 → W p l e ({ frames := 5, cells := 0, slots := 0, locals := 131 } : Room) s m args below meth c H locs 0 0 QQ (F0 m 36 ls [])) ∧ (∀ (x2 : Int32) (x3 : Int32) (x4 : Int32) (x5 : Int32) (r1 : Nat) (z : ow_MS) (H : Heap) (locs : List Loc) (ls : Array Slot), mw_net r1 → tw_M D vwCl mX q s.heap u z H locs → lv_has ls 6 [(0, .ref (u 0)), (1, .ref (u r1)), (2, .int x2), (3, .int x3), (4, .int x4), (5, .int x5)] → q_X13_without K k 3 x2 x3 x4 x5 r1 z = some z1 → W p l e ({ frames := 5, cells := 0, slots := 0, locals := 131 } : Room) s m args below meth c H locs 0 0 QQ (F0 m 93 ls [])) := by
    intro k
    induction k with
    | zero => exact ⟨fun _ _ _ _ _ _ _ _ _ _ _ _ hq => tw_no hq, fun _ _ _ _ _ _ _ _ _ _ _ _ hq => tw_no hq, fun _ _ _ _ _ _ _ _ _ _ _ _ hq => tw_no hq, fun _ _ _ _ _ _ _ _ _ _ _ _ hq => tw_no hq⟩
    | succ k ih =>
      obtain ⟨ih_0, ih_1, ih_2, ih_3⟩ := ih
      refine ⟨?_, ?_, ?_, ?_⟩
      · intro x2 x3 x4 x5 r1 z H locs ls hr1 hM hl hq
        have hq : qm_X13_without_0 K (q_X13_without K k) x2 x3 x4 x5 r1 z = some z1 := hq
        unfold qm_X13_without_0 at hq
        refine lv_aload_n hx hb dmX13_without_0 rfl (lv_at hl 0 rfl) ?_
        refine mg13_121 hx hb hT hown hK hM dmX13_without_1 ?_
        obtain ⟨z1, hcq, hq⟩ := tw_cl0 hq
        refine tw_calv hM (va_runV (As := []) (rest := []) ⟨hx, hb, hml, hown, hts⟩ (km_X12_clear l D q u hU K 3000 mw_n3 z z1 hcq) (cwV 0 hts (tw_gV wM_good wq_85 wq_11 wq_12 wq_13 wq_3) rfl rfl rfl cd_X12_clear ⟨(Nat.le_of_ble_eq_true rfl), (Nat.le_of_ble_eq_true rfl)⟩) (mw_preV hK hN hM (mo_n mw_n3) rfl) rfl rfl hl.1 rfl (lv_room (Nat.le_of_ble_eq_true rfl)) dmX13_without_4 ⟨(Nat.le_of_ble_eq_true rfl), (Nat.le_of_ble_eq_true rfl)⟩) (fun H locs hM => ?_)
        refine lv_aload_n hx hb dmX13_without_7 rfl (lv_at hl 0 rfl) ?_
        refine mg13_121 hx hb hT hown hK hM dmX13_without_8 ?_
        refine lv_aload_n hx hb dmX13_without_11 rfl (lv_at hl 1 rfl) ?_
        obtain ⟨z2, hcq, hq⟩ := tw_cl0 hq
        refine tw_calv hM (va_runV (As := [.ref (u r1)]) (rest := []) ⟨hx, hb, hml, hown, hts⟩ (km_X12_signsOf l D q u hU K 3000 r1 mw_n3 hr1 z1 z2 hcq) (cwV 1 hts (tw_gV wM_good wq_153 wq_21 wq_22 wq_13 wq_9) rfl rfl rfl cd_X12_signsOf ⟨(Nat.le_of_ble_eq_true rfl), (Nat.le_of_ble_eq_true rfl)⟩) (mw_preV hK hN hM (mo_n mw_n3) rfl) rfl rfl hl.1 rfl (lv_room (Nat.le_of_ble_eq_true rfl)) dmX13_without_12 ⟨(Nat.le_of_ble_eq_true rfl), (Nat.le_of_ble_eq_true rfl)⟩) (fun H locs hM => ?_)
        refine lv_iconst (v := 0) hx hb dmX13_without_15 (by decide) ?_
        refine lv_istore (lv' := [(4, .int 0), (0, .ref (u 0)), (1, .ref (u r1)), (2, .int x2), (3, .int x3)]) hx hb dmX13_without_16 hl (by decide) rfl (fun ls hl => ?_)
        exact ih_1 x2 x3 0 0 r1 z2 H locs ls hr1 hM (lv_sub hl [1, 2, 3, 4, 0] rfl) hq
      · intro x2 x3 x4 x5 r1 z H locs ls hr1 hM hl hq
        have hq : qm_X13_without_1 K (q_X13_without K k) x2 x3 x4 x5 r1 z = some z1 := hq
        unfold qm_X13_without_1 at hq
        refine lv_iload hx hb dmX13_without_18 (lv_at hl 4 rfl) ?_
        refine lv_aload_n hx hb dmX13_without_20 rfl (lv_at hl 1 rfl) ?_
        refine mg13_407 hx hb hT hown hK hM hN hr1 hq dmX13_without_21 (fun v3 hq => ?_)
        refine lv_icmp_ge (tgt := 112) hx hb dmX13_without_24 (by decide) (fun hc => ?_) (fun hc => ?_)
        · have hq := tw_it hq hc
          refine lv_aload_n hx hb dmX13_without_112 rfl (lv_at hl 0 rfl) ?_
          obtain ⟨z4, hcq, hq⟩ := tw_cl0 hq
          refine tw_calv hM (va_runV (As := []) (rest := []) ⟨hx, hb, hml, hown, hts⟩ (km_X13_offer l D q u hU K z z4 hcq) (cwV 0 hts (tw_gV wM_good wq_192 wq_193 wq_194 wq_61 wq_191) rfl rfl rfl cd_X13_offer ⟨(Nat.le_of_ble_eq_true rfl), (Nat.le_of_ble_eq_true rfl)⟩) (mw_preV hK hN hM mo_0 rfl) rfl rfl hl.1 rfl (lv_room (Nat.le_of_ble_eq_true rfl)) dmX13_without_113 ⟨(Nat.le_of_ble_eq_true rfl), (Nat.le_of_ble_eq_true rfl)⟩) (fun H locs hM => ?_)
          exact mw_vret hx hb hr hlocks hM hq hQQ dmX13_without_116
        · have hq := tw_if hq hc
          refine lv_aload_n hx hb dmX13_without_27 rfl (lv_at hl 1 rfl) ?_
          refine mg13_452 hx hb hT hown hK hM hN hr1 dmX13_without_28 ?_
          refine lv_iload hx hb dmX13_without_31 (lv_at hl 4 rfl) ?_
          refine tw_iald mX_ok hx hb hK hM (mrn_3 hr1) hq dmX13_without_33 (fun v5 hq => ?_)
          refine lv_istore (lv' := [(5, .int v5), (0, .ref (u 0)), (1, .ref (u r1)), (2, .int x2), (3, .int x3), (4, .int x4)]) hx hb dmX13_without_34 hl (by decide) rfl (fun ls hl => ?_)
          exact ih_2 x2 x3 x4 v5 r1 z H locs ls hr1 hM (lv_sub hl [1, 2, 3, 4, 5, 0] rfl) hq
      · intro x2 x3 x4 x5 r1 z H locs ls hr1 hM hl hq
        have hq : qm_X13_without_2 K (q_X13_without K k) x2 x3 x4 x5 r1 z = some z1 := hq
        unfold qm_X13_without_2 at hq
        refine lv_iload hx hb dmX13_without_36 (lv_at hl 5 rfl) ?_
        refine lv_aload_n hx hb dmX13_without_38 rfl (lv_at hl 1 rfl) ?_
        refine mg13_452 hx hb hT hown hK hM hN hr1 dmX13_without_39 ?_
        refine lv_iload hx hb dmX13_without_42 (lv_at hl 4 rfl) ?_
        refine lv_iconst (v := 1) hx hb dmX13_without_44 (by decide) ?_
        refine lv_iadd hx hb dmX13_without_45 ?_
        refine tw_iald mX_ok hx hb hK hM (mrn_3 hr1) hq dmX13_without_46 (fun v6 hq => ?_)
        refine lv_icmp_ge (tgt := 99) hx hb dmX13_without_47 (by decide) (fun hc => ?_) (fun hc => ?_)
        · have hq := tw_it hq hc
          refine lv_aload_n hx hb dmX13_without_99 rfl (lv_at hl 0 rfl) ?_
          refine mg13_121 hx hb hT hown hK hM dmX13_without_100 ?_
          obtain ⟨z7, hcq, hq⟩ := tw_cl0 hq
          refine tw_calv hM (va_runV (As := []) (rest := []) ⟨hx, hb, hml, hown, hts⟩ (km_X12_end l D q u hU K 3000 mw_n3 z z7 hcq) (cwV 0 hts (tw_gV wM_good wq_86 wq_18 wq_19 wq_13 wq_7) rfl rfl rfl cd_X12_end ⟨(Nat.le_of_ble_eq_true rfl), (Nat.le_of_ble_eq_true rfl)⟩) (mw_preV hK hN hM (mo_n mw_n3) rfl) rfl rfl hl.1 rfl (lv_room (Nat.le_of_ble_eq_true rfl)) dmX13_without_103 ⟨(Nat.le_of_ble_eq_true rfl), (Nat.le_of_ble_eq_true rfl)⟩) (fun H locs hM => ?_)
          refine lv_iinc (v := (x4 + 1)) (lv' := [(4, .int (x4 + 1)), (0, .ref (u 0)), (1, .ref (u r1)), (2, .int x2), (3, .int x3), (5, .int x5)]) hx hb dmX13_without_106 hl (k := 4) rfl rfl (by decide) rfl (fun ls hl => ?_)
          refine lv_goto (tgt := 18) hx hb dmX13_without_109 (by decide) ?_
          exact ih_1 x2 x3 (x4 + 1) 0 r1 z7 H locs ls hr1 hM (lv_sub hl [1, 2, 3, 4, 0] rfl) hq
        · have hq := tw_if hq hc
          refine lv_aload_n hx hb dmX13_without_50 rfl (lv_at hl 1 rfl) ?_
          refine mg13_23 hx hb hT hown hK hM hN hr1 dmX13_without_51 ?_
          refine lv_iload hx hb dmX13_without_54 (lv_at hl 5 rfl) ?_
          refine tw_iald mX_ok hx hb hK hM (mrn_4 hr1) hq dmX13_without_56 (fun v8 hq => ?_)
          refine lv_iload_n hx hb dmX13_without_57 rfl (lv_at hl 2 rfl) ?_
          refine lv_icmp_eq (tgt := 93) hx hb dmX13_without_58 (by decide) (fun hc => ?_) (fun hc => ?_)
          · have hq := tw_it hq hc
            exact ih_3 x2 x3 x4 x5 r1 z H locs ls hr1 hM (lv_sub hl [0, 1, 2, 3, 4, 5] rfl) hq
          · have hq := tw_if hq hc
            refine lv_aload_n hx hb dmX13_without_61 rfl (lv_at hl 1 rfl) ?_
            refine mg13_23 hx hb hT hown hK hM hN hr1 dmX13_without_62 ?_
            refine lv_iload hx hb dmX13_without_65 (lv_at hl 5 rfl) ?_
            refine tw_iald mX_ok hx hb hK hM (mrn_4 hr1) hq dmX13_without_67 (fun v9 hq => ?_)
            refine lv_iload_n hx hb dmX13_without_68 rfl (lv_at hl 3 rfl) ?_
            refine lv_icmp_eq (tgt := 93) hx hb dmX13_without_69 (by decide) (fun hc => ?_) (fun hc => ?_)
            · have hq := tw_it hq hc
              exact ih_3 x2 x3 x4 x5 r1 z H locs ls hr1 hM (lv_sub hl [0, 1, 2, 3, 4, 5] rfl) hq
            · have hq := tw_if hq hc
              refine lv_aload_n hx hb dmX13_without_72 rfl (lv_at hl 0 rfl) ?_
              refine mg13_121 hx hb hT hown hK hM dmX13_without_73 ?_
              refine lv_aload_n hx hb dmX13_without_76 rfl (lv_at hl 1 rfl) ?_
              refine mg13_23 hx hb hT hown hK hM hN hr1 dmX13_without_77 ?_
              refine lv_iload hx hb dmX13_without_80 (lv_at hl 5 rfl) ?_
              refine tw_iald mX_ok hx hb hK hM (mrn_4 hr1) hq dmX13_without_82 (fun v10 hq => ?_)
              refine lv_aload_n hx hb dmX13_without_83 rfl (lv_at hl 1 rfl) ?_
              refine mg13_32 hx hb hT hown hK hM hN hr1 dmX13_without_84 ?_
              refine lv_iload hx hb dmX13_without_87 (lv_at hl 5 rfl) ?_
              refine tw_iald mX_ok hx hb hK hM (mrn_5 hr1) hq dmX13_without_89 (fun v11 hq => ?_)
              obtain ⟨z12, hcq, hq⟩ := tw_cl0 hq
              refine tw_calv hM (va_runV (As := [.int v10, .int v11]) (rest := []) ⟨hx, hb, hml, hown, hts⟩ (km_X12_add l D q u hU K 3000 v10 v11 mw_n3 z z12 hcq) (cwV 2 hts (tw_gV wM_good wq_87 wq_15 wq_16 wq_13 wq_6) rfl rfl rfl cd_X12_add ⟨(Nat.le_of_ble_eq_true rfl), (Nat.le_of_ble_eq_true rfl)⟩) (mw_preV hK hN hM (mo_n mw_n3) rfl) rfl rfl hl.1 rfl (lv_room (Nat.le_of_ble_eq_true rfl)) dmX13_without_90 ⟨(Nat.le_of_ble_eq_true rfl), (Nat.le_of_ble_eq_true rfl)⟩) (fun H locs hM => ?_)
              exact ih_3 x2 x3 x4 x5 r1 z12 H locs ls hr1 hM (lv_sub hl [0, 1, 2, 3, 4, 5] rfl) hq
      · intro x2 x3 x4 x5 r1 z H locs ls hr1 hM hl hq
        have hq : qm_X13_without_3 K (q_X13_without K k) x2 x3 x4 x5 r1 z = some z1 := hq
        unfold qm_X13_without_3 at hq
        refine lv_iinc (v := (x5 + 1)) (lv' := [(5, .int (x5 + 1)), (0, .ref (u 0)), (1, .ref (u r1)), (2, .int x2), (3, .int x3), (4, .int x4)]) hx hb dmX13_without_93 hl (k := 5) rfl rfl (by decide) rfl (fun ls hl => ?_)
        refine lv_goto (tgt := 36) hx hb dmX13_without_96 (by decide) ?_
        exact ih_2 x2 x3 x4 (x5 + 1) r1 z H locs ls hr1 hM (lv_sub hl [1, 2, 3, 4, 5, 0] rfl) hq
  exact (key K).1 x2 x3 0 0 r1 z s.heap [] ls hr1 hM (lv_sub hl [0, 1, 2, 3] rfl) hq
theorem dmX13_put_0 : decode cX13_put 0 = .ok (.aload_n 0, 1) := by decide +kernel
theorem dmX13_put_1 : decode cX13_put 1 = .ok (.getfield 155, 3) := by decide +kernel
theorem dmX13_put_4 : decode cX13_put 4 = .ok (.iload_n 1, 1) := by decide +kernel
theorem dmX13_put_5 : decode cX13_put 5 = .ok (.iload_n 2, 1) := by decide +kernel
theorem dmX13_put_6 : decode cX13_put 6 = .ok (.iastore, 1) := by decide +kernel
theorem dmX13_put_7 : decode cX13_put 7 = .ok (.aload_n 0, 1) := by decide +kernel
theorem dmX13_put_8 : decode cX13_put 8 = .ok (.getfield 158, 3) := by decide +kernel
theorem dmX13_put_11 : decode cX13_put 11 = .ok (.iload_n 1, 1) := by decide +kernel
theorem dmX13_put_12 : decode cX13_put 12 = .ok (.iload_n 3, 1) := by decide +kernel
theorem dmX13_put_13 : decode cX13_put 13 = .ok (.iastore, 1) := by decide +kernel
theorem dmX13_put_14 : decode cX13_put 14 = .ok (.return_, 1) := by decide +kernel
def qm_X13_put_0 (K : Nat) (x1 : Int32) (x2 : Int32) (x3 : Int32) (z : ow_MS) : Option ow_MS :=
 wrI mX z 31 x1 x2 fun z1 => wrI mX z1 32 x1 x3 fun z2 => some z2
def qe_X13_put (K : Nat) (x1 : Int32) (x2 : Int32) (x3 : Int32) (z : ow_MS) : Option ow_MS := qm_X13_put_0 K x1 x2 x3 z
abbrev wm_X13_put : List Cond := .code yX13_put cX13_put 4 none :: wM
theorem cd_X13_put : yX13_put.cls = RX13 ∧ yX13_put.cls ≠ "java/lang/invoke/MethodHandle" ∧ yX13_put.cls ≠ "java/lang/invoke/VarHandle" ∧ (parseMethodDescriptor yX13_put.desc).map (fun d => d.parameters.length) = some 3 := by decide +kernel
set_option maxHeartbeats 4000000 in
set_option maxRecDepth 100000 in
theorem km_X13_put (l : Launch) (D : va_G) (q : ow_Q5) (u : Nat → Nat) (hU : tw_inj mX u) (K : Nat) (x1 : Int32) (x2 : Int32) (x3 : Int32)  (z z1 : ow_MS) (hq : qe_X13_put K x1 x2 x3 z = some z1) : Met l yX13_put wm_X13_put ({ frames := 0, cells := 0, slots := 0, locals := 0 } : Room) (va_Pc [.ref (u 0), .int x1, .int x2, .int x3] (mw_pre D q u z)) (va_Qv (fun (_ : Unit) => True) (fun _ t => va_P D vwCl (tw mX q u z1) t.heap) (tw_A mX u)) 0 0 (tw_A mX u) := by
  refine Met.ofW (cc := cX13_put) (maxL := 4) (ret := none) (by decide) rfl ?_
  intro p e s m args below meth c s₁ B hml hv
  obtain ⟨rfl, hP, hK, hN⟩ := hv
  have hx := B.exec
  have hb := B.bytes
  have hr := B.returns
  have hts := atoms_spec (ws := wm_X13_put) B.pre
  have hT : ∀ w ∈ wM, w.before ([.ref (u 0), .int x1, .int x2, .int x3] : List Value).toArray s = true := fun w h => hts w (List.mem_cons_of_mem _ h)
  have hown : s.vm.findClass RX13 = some m.cls := findClass_of_methodNamed B.named
  have hlocks := B.notSynchronized
  have hM : tw_M D vwCl mX q s.heap u z s.heap [] := ⟨hP, va_S.rf⟩
  have hl := lv_entry ([.ref (u 0), .int x1, .int x2, .int x3]) (n := 4) (Nat.le_of_ble_eq_true rfl)
  rw [lg_entry_eq]
  generalize (lg_sl ([.ref (u 0), .int x1, .int x2, .int x3]) ++ List.replicate (4 - (lg_sl ([.ref (u 0), .int x1, .int x2, .int x3])).length) Slot.unset).toArray = ls at hl ⊢
  have hl : lv_has ls 4 [(0, .ref (u 0)), (1, .int x1), (2, .int x2), (3, .int x3)] := hl
  refine ow_named (fun QQ hQQ => ?_)
  generalize ([.ref (u 0), .int x1, .int x2, .int x3] : List Value).toArray = args at hts hT hQQ ⊢
  have hq : qm_X13_put_0 K x1 x2 x3 z = some z1 := hq
  unfold qm_X13_put_0 at hq
  suffices key : ∀ (H : Heap) (locs : List Loc), tw_M D vwCl mX q s.heap u z H locs → W p l e ({ frames := 0, cells := 0, slots := 0, locals := 0 } : Room) s m args below meth c H locs 0 0 QQ (F0 m 0 ls []) from key s.heap [] hM
  intro H locs hM
  refine lv_aload_n hx hb dmX13_put_0 rfl (lv_at hl 0 rfl) ?_
  refine mg13_155 hx hb hT hown hK hM dmX13_put_1 ?_
  refine lv_iload_n hx hb dmX13_put_4 rfl (lv_at hl 1 rfl) ?_
  refine lv_iload_n hx hb dmX13_put_5 rfl (lv_at hl 2 rfl) ?_
  refine tw_iast mX_ok hU hx hb hK hM mr_31 hq dmX13_put_6 (fun z1 H locs hM hq => ?_)
  refine lv_aload_n hx hb dmX13_put_7 rfl (lv_at hl 0 rfl) ?_
  refine mg13_158 hx hb hT hown hK hM dmX13_put_8 ?_
  refine lv_iload_n hx hb dmX13_put_11 rfl (lv_at hl 1 rfl) ?_
  refine lv_iload_n hx hb dmX13_put_12 rfl (lv_at hl 3 rfl) ?_
  refine tw_iast mX_ok hU hx hb hK hM mr_32 hq dmX13_put_13 (fun z2 H locs hM hq => ?_)
  exact mw_vret hx hb hr hlocks hM hq hQQ dmX13_put_14
theorem dmX13_putAt_0 : decode cX13_putAt 0 = .ok (.iload_n 1, 1) := dw_at cX13_putAt_k0 (p := 0) rfl (by decide +kernel)
theorem dmX13_putAt_1 : decode cX13_putAt 1 = .ok (.iload_n 2, 1) := dw_at cX13_putAt_k0 (p := 1) rfl (by decide +kernel)
theorem dmX13_putAt_2 : decode cX13_putAt 2 = .ok (.if_icmp .ne 41, 3) := dw_at cX13_putAt_k0 (p := 2) rfl (by decide +kernel)
theorem dmX13_putAt_5 : decode cX13_putAt 5 = .ok (.aload_n 0, 1) := dw_at cX13_putAt_k0 (p := 5) rfl (by decide +kernel)
theorem dmX13_putAt_6 : decode cX13_putAt 6 = .ok (.getfield 121, 3) := dw_at cX13_putAt_k0 (p := 6) rfl (by decide +kernel)
theorem dmX13_putAt_9 : decode cX13_putAt 9 = .ok (.aload_n 0, 1) := dw_at cX13_putAt_k0 (p := 9) rfl (by decide +kernel)
theorem dmX13_putAt_10 : decode cX13_putAt 10 = .ok (.getfield 155, 3) := dw_at cX13_putAt_k0 (p := 10) rfl (by decide +kernel)
theorem dmX13_putAt_13 : decode cX13_putAt 13 = .ok (.iconst 0, 1) := dw_at cX13_putAt_k0 (p := 13) rfl (by decide +kernel)
theorem dmX13_putAt_14 : decode cX13_putAt 14 = .ok (.iaload, 1) := dw_at cX13_putAt_k0 (p := 14) rfl (by decide +kernel)
theorem dmX13_putAt_15 : decode cX13_putAt 15 = .ok (.aload_n 0, 1) := dw_at cX13_putAt_k0 (p := 15) rfl (by decide +kernel)
theorem dmX13_putAt_16 : decode cX13_putAt 16 = .ok (.getfield 158, 3) := dw_at cX13_putAt_k0 (p := 16) rfl (by decide +kernel)
theorem dmX13_putAt_19 : decode cX13_putAt 19 = .ok (.iconst 0, 1) := dw_at cX13_putAt_k0 (p := 19) rfl (by decide +kernel)
theorem dmX13_putAt_20 : decode cX13_putAt 20 = .ok (.iaload, 1) := dw_at cX13_putAt_k0 (p := 20) rfl (by decide +kernel)
theorem dmX13_putAt_21 : decode cX13_putAt 21 = .ok (.invokevirtual 97, 3) := dw_at cX13_putAt_k0 (p := 21) rfl (by decide +kernel)
theorem dmX13_putAt_24 : decode cX13_putAt 24 = .ok (.aload_n 0, 1) := dw_at cX13_putAt_k1 (p := 0) rfl (by decide +kernel)
theorem dmX13_putAt_25 : decode cX13_putAt 25 = .ok (.getfield 121, 3) := dw_at cX13_putAt_k1 (p := 1) rfl (by decide +kernel)
theorem dmX13_putAt_28 : decode cX13_putAt 28 = .ok (.aload_n 0, 1) := dw_at cX13_putAt_k1 (p := 4) rfl (by decide +kernel)
theorem dmX13_putAt_29 : decode cX13_putAt 29 = .ok (.getfield 155, 3) := dw_at cX13_putAt_k1 (p := 5) rfl (by decide +kernel)
theorem dmX13_putAt_32 : decode cX13_putAt 32 = .ok (.iconst 1, 1) := dw_at cX13_putAt_k1 (p := 8) rfl (by decide +kernel)
theorem dmX13_putAt_33 : decode cX13_putAt 33 = .ok (.iaload, 1) := dw_at cX13_putAt_k1 (p := 9) rfl (by decide +kernel)
theorem dmX13_putAt_34 : decode cX13_putAt 34 = .ok (.aload_n 0, 1) := dw_at cX13_putAt_k1 (p := 10) rfl (by decide +kernel)
theorem dmX13_putAt_35 : decode cX13_putAt 35 = .ok (.getfield 158, 3) := dw_at cX13_putAt_k1 (p := 11) rfl (by decide +kernel)
theorem dmX13_putAt_38 : decode cX13_putAt 38 = .ok (.iconst 1, 1) := dw_at cX13_putAt_k1 (p := 14) rfl (by decide +kernel)
theorem dmX13_putAt_39 : decode cX13_putAt 39 = .ok (.iaload, 1) := dw_at cX13_putAt_k1 (p := 15) rfl (by decide +kernel)
theorem dmX13_putAt_40 : decode cX13_putAt 40 = .ok (.invokevirtual 97, 3) := dw_at cX13_putAt_k1 (p := 16) rfl (by decide +kernel)
theorem dmX13_putAt_43 : decode cX13_putAt 43 = .ok (.iload_n 1, 1) := dw_at cX13_putAt_k1 (p := 19) rfl (by decide +kernel)
theorem dmX13_putAt_44 : decode cX13_putAt 44 = .ok (.iload_n 3, 1) := dw_at cX13_putAt_k1 (p := 20) rfl (by decide +kernel)
theorem dmX13_putAt_45 : decode cX13_putAt 45 = .ok (.if_icmp .ne 41, 3) := dw_at cX13_putAt_k1 (p := 21) rfl (by decide +kernel)
theorem dmX13_putAt_48 : decode cX13_putAt 48 = .ok (.aload_n 0, 1) := dw_at cX13_putAt_k2 (p := 0) rfl (by decide +kernel)
theorem dmX13_putAt_49 : decode cX13_putAt 49 = .ok (.getfield 121, 3) := dw_at cX13_putAt_k2 (p := 1) rfl (by decide +kernel)
theorem dmX13_putAt_52 : decode cX13_putAt 52 = .ok (.aload_n 0, 1) := dw_at cX13_putAt_k2 (p := 4) rfl (by decide +kernel)
theorem dmX13_putAt_53 : decode cX13_putAt 53 = .ok (.getfield 155, 3) := dw_at cX13_putAt_k2 (p := 5) rfl (by decide +kernel)
theorem dmX13_putAt_56 : decode cX13_putAt 56 = .ok (.iconst 2, 1) := dw_at cX13_putAt_k2 (p := 8) rfl (by decide +kernel)
theorem dmX13_putAt_57 : decode cX13_putAt 57 = .ok (.iaload, 1) := dw_at cX13_putAt_k2 (p := 9) rfl (by decide +kernel)
theorem dmX13_putAt_58 : decode cX13_putAt 58 = .ok (.aload_n 0, 1) := dw_at cX13_putAt_k2 (p := 10) rfl (by decide +kernel)
theorem dmX13_putAt_59 : decode cX13_putAt 59 = .ok (.getfield 158, 3) := dw_at cX13_putAt_k2 (p := 11) rfl (by decide +kernel)
theorem dmX13_putAt_62 : decode cX13_putAt 62 = .ok (.iconst 2, 1) := dw_at cX13_putAt_k2 (p := 14) rfl (by decide +kernel)
theorem dmX13_putAt_63 : decode cX13_putAt 63 = .ok (.iaload, 1) := dw_at cX13_putAt_k2 (p := 15) rfl (by decide +kernel)
theorem dmX13_putAt_64 : decode cX13_putAt 64 = .ok (.invokevirtual 97, 3) := dw_at cX13_putAt_k2 (p := 16) rfl (by decide +kernel)
theorem dmX13_putAt_67 : decode cX13_putAt 67 = .ok (.aload_n 0, 1) := dw_at cX13_putAt_k2 (p := 19) rfl (by decide +kernel)
theorem dmX13_putAt_68 : decode cX13_putAt 68 = .ok (.getfield 121, 3) := dw_at cX13_putAt_k2 (p := 20) rfl (by decide +kernel)
theorem dmX13_putAt_71 : decode cX13_putAt 71 = .ok (.aload_n 0, 1) := dw_at cX13_putAt_k2 (p := 23) rfl (by decide +kernel)
theorem dmX13_putAt_72 : decode cX13_putAt 72 = .ok (.getfield 155, 3) := dw_at cX13_putAt_k3 (p := 0) rfl (by decide +kernel)
theorem dmX13_putAt_75 : decode cX13_putAt 75 = .ok (.iconst 3, 1) := dw_at cX13_putAt_k3 (p := 3) rfl (by decide +kernel)
theorem dmX13_putAt_76 : decode cX13_putAt 76 = .ok (.iaload, 1) := dw_at cX13_putAt_k3 (p := 4) rfl (by decide +kernel)
theorem dmX13_putAt_77 : decode cX13_putAt 77 = .ok (.aload_n 0, 1) := dw_at cX13_putAt_k3 (p := 5) rfl (by decide +kernel)
theorem dmX13_putAt_78 : decode cX13_putAt 78 = .ok (.getfield 158, 3) := dw_at cX13_putAt_k3 (p := 6) rfl (by decide +kernel)
theorem dmX13_putAt_81 : decode cX13_putAt 81 = .ok (.iconst 3, 1) := dw_at cX13_putAt_k3 (p := 9) rfl (by decide +kernel)
theorem dmX13_putAt_82 : decode cX13_putAt 82 = .ok (.iaload, 1) := dw_at cX13_putAt_k3 (p := 10) rfl (by decide +kernel)
theorem dmX13_putAt_83 : decode cX13_putAt 83 = .ok (.invokevirtual 97, 3) := dw_at cX13_putAt_k3 (p := 11) rfl (by decide +kernel)
theorem dmX13_putAt_86 : decode cX13_putAt 86 = .ok (.return_, 1) := dw_at cX13_putAt_k3 (p := 14) rfl (by decide +kernel)
def qm_X13_putAt_0 (K : Nat) (go : Nat → Int32 → Int32 → Int32 → ow_MS → Option ow_MS) (x1 : Int32) (x2 : Int32) (x3 : Int32) (z : ow_MS) : Option ow_MS :=
 (if x1 = x2 then rdI mX z 31 0 fun v1 => rdI mX z 32 0 fun v2 => cs0 (qe_X12_add K 3000 v1 v2 z) fun z3 => rdI mX z3 31 1 fun v4 => rdI mX z3 32 1 fun v5 => cs0 (qe_X12_add K 3000 v4 v5 z3) fun z6 => go 1 x1 x2 x3 z6
 else go 1 x1 x2 x3 z)
def qm_X13_putAt_1 (K : Nat) (go : Nat → Int32 → Int32 → Int32 → ow_MS → Option ow_MS) (x1 : Int32) (x2 : Int32) (x3 : Int32) (z : ow_MS) : Option ow_MS :=
 (if x1 = x3 then rdI mX z 31 2 fun v7 => rdI mX z 32 2 fun v8 => cs0 (qe_X12_add K 3000 v7 v8 z) fun z9 => rdI mX z9 31 3 fun v10 => rdI mX z9 32 3 fun v11 => cs0 (qe_X12_add K 3000 v10 v11 z9) fun z12 => some z12
 else some z)
def qb_X13_putAt (K : Nat) (go : Nat → Int32 → Int32 → Int32 → ow_MS → Option ow_MS) (L : Nat) (x1 : Int32) (x2 : Int32) (x3 : Int32) (z : ow_MS) : Option ow_MS := match L with
  | 0 => qm_X13_putAt_0 K go x1 x2 x3 z
  | 1 => qm_X13_putAt_1 K go x1 x2 x3 z
  | _ => none
def q_X13_putAt (K : Nat) : Nat → Nat → Int32 → Int32 → Int32 → ow_MS → Option ow_MS
  | 0 => fun _ _ _ _ _ => none
  | k + 1 => qb_X13_putAt K (q_X13_putAt K k)
def qe_X13_putAt (K : Nat) (x1 : Int32) (x2 : Int32) (x3 : Int32) (z : ow_MS) : Option ow_MS := q_X13_putAt K K 0 x1 x2 x3 z
abbrev wm_X13_putAt : List Cond := .code yX13_putAt cX13_putAt 4 none :: wM
theorem cd_X13_putAt : yX13_putAt.cls = RX13 ∧ yX13_putAt.cls ≠ "java/lang/invoke/MethodHandle" ∧ yX13_putAt.cls ≠ "java/lang/invoke/VarHandle" ∧ (parseMethodDescriptor yX13_putAt.desc).map (fun d => d.parameters.length) = some 3 := by decide +kernel
set_option maxHeartbeats 4000000 in
set_option maxRecDepth 100000 in
theorem km_X13_putAt (l : Launch) (D : va_G) (q : ow_Q5) (u : Nat → Nat) (hU : tw_inj mX u) (K : Nat) (x1 : Int32) (x2 : Int32) (x3 : Int32)  (z z1 : ow_MS) (hq : qe_X13_putAt K x1 x2 x3 z = some z1) : Met l yX13_putAt wm_X13_putAt ({ frames := 1, cells := 0, slots := 0, locals := 22 } : Room) (va_Pc [.ref (u 0), .int x1, .int x2, .int x3] (mw_pre D q u z)) (va_Qv (fun (_ : Unit) => True) (fun _ t => va_P D vwCl (tw mX q u z1) t.heap) (tw_A mX u)) 0 0 (tw_A mX u) := by
  refine Met.ofW (cc := cX13_putAt) (maxL := 4) (ret := none) (by decide) rfl ?_
  intro p e s m args below meth c s₁ B hml hv
  obtain ⟨rfl, hP, hK, hN⟩ := hv
  have hx := B.exec
  have hb := B.bytes
  have hr := B.returns
  have hts := atoms_spec (ws := wm_X13_putAt) B.pre
  have hT : ∀ w ∈ wM, w.before ([.ref (u 0), .int x1, .int x2, .int x3] : List Value).toArray s = true := fun w h => hts w (List.mem_cons_of_mem _ h)
  have hown : s.vm.findClass RX13 = some m.cls := findClass_of_methodNamed B.named
  have hlocks := B.notSynchronized
  have hM : tw_M D vwCl mX q s.heap u z s.heap [] := ⟨hP, va_S.rf⟩
  have hl := lv_entry ([.ref (u 0), .int x1, .int x2, .int x3]) (n := 4) (Nat.le_of_ble_eq_true rfl)
  rw [lg_entry_eq]
  generalize (lg_sl ([.ref (u 0), .int x1, .int x2, .int x3]) ++ List.replicate (4 - (lg_sl ([.ref (u 0), .int x1, .int x2, .int x3])).length) Slot.unset).toArray = ls at hl ⊢
  have hl : lv_has ls 4 [(0, .ref (u 0)), (1, .int x1), (2, .int x2), (3, .int x3)] := hl
  refine ow_named (fun QQ hQQ => ?_)
  generalize ([.ref (u 0), .int x1, .int x2, .int x3] : List Value).toArray = args at hts hT hQQ ⊢
  have key : ∀ k : Nat, (∀ (x1 : Int32) (x2 : Int32) (x3 : Int32) (z : ow_MS) (H : Heap) (locs : List Loc) (ls : Array Slot), tw_M D vwCl mX q s.heap u z H locs → lv_has ls 4 [(0, .ref (u 0)), (1, .int x1), (2, .int x2), (3, .int x3)] → q_X13_putAt K k 0 x1 x2 x3 z = some z1 → W p l e ({ frames := 1, cells := 0, slots := 0, locals := 22 } : Room) s m args below meth c H locs 0 0 QQ (F0 m 0 ls [])) ∧ (∀ (x1 : Int32) (x2 : Int32) (x3 : Int32) (z : ow_MS) (H : Heap) (locs : List Loc) (ls : Array Slot), tw_M D vwCl mX q s.heap u z H locs → lv_has ls 4 [(0, .ref (u 0)), (1, .int x1), (2, .int x2), (3, .int x3)] → q_X13_putAt K k 1 x1 x2 x3 z = some z1 → W p l e ({ frames := 1, cells := 0, slots := 0, locals := 22 } : Room) s m args below meth c H locs 0 0 QQ (F0 m 43 ls [])) := by
    intro k
    induction k with
    | zero => exact ⟨fun _ _ _ _ _ _ _  _ _ hq => tw_no hq, fun _ _ _ _ _ _ _  _ _ hq => tw_no hq⟩
    | succ k ih =>
      obtain ⟨ih_0, ih_1⟩ := ih
      refine ⟨?_, ?_⟩
      · intro x1 x2 x3 z H locs ls  hM hl hq
        have hq : qm_X13_putAt_0 K (q_X13_putAt K k) x1 x2 x3 z = some z1 := hq
        unfold qm_X13_putAt_0 at hq
        refine lv_iload_n hx hb dmX13_putAt_0 rfl (lv_at hl 1 rfl) ?_
        refine lv_iload_n hx hb dmX13_putAt_1 rfl (lv_at hl 2 rfl) ?_
        refine lv_icmp_ne (tgt := 43) hx hb dmX13_putAt_2 (by decide) (fun hc => ?_) (fun hc => ?_)
        · have hq := tw_if hq hc
          exact ih_1 x1 x2 x3 z H locs ls hM (lv_sub hl [0, 1, 2, 3] rfl) hq
        · have hq := tw_it hq hc
          refine lv_aload_n hx hb dmX13_putAt_5 rfl (lv_at hl 0 rfl) ?_
          refine mg13_121 hx hb hT hown hK hM dmX13_putAt_6 ?_
          refine lv_aload_n hx hb dmX13_putAt_9 rfl (lv_at hl 0 rfl) ?_
          refine mg13_155 hx hb hT hown hK hM dmX13_putAt_10 ?_
          refine lv_iconst (v := 0) hx hb dmX13_putAt_13 (by decide) ?_
          refine tw_iald mX_ok hx hb hK hM mr_31 hq dmX13_putAt_14 (fun v1 hq => ?_)
          refine lv_aload_n hx hb dmX13_putAt_15 rfl (lv_at hl 0 rfl) ?_
          refine mg13_158 hx hb hT hown hK hM dmX13_putAt_16 ?_
          refine lv_iconst (v := 0) hx hb dmX13_putAt_19 (by decide) ?_
          refine tw_iald mX_ok hx hb hK hM mr_32 hq dmX13_putAt_20 (fun v2 hq => ?_)
          obtain ⟨z3, hcq, hq⟩ := tw_cl0 hq
          refine tw_calv hM (va_runV (As := [.int v1, .int v2]) (rest := []) ⟨hx, hb, hml, hown, hts⟩ (km_X12_add l D q u hU K 3000 v1 v2 mw_n3 z z3 hcq) (cwV 2 hts (tw_gV wM_good wq_87 wq_15 wq_16 wq_13 wq_6) rfl rfl rfl cd_X12_add ⟨(Nat.le_of_ble_eq_true rfl), (Nat.le_of_ble_eq_true rfl)⟩) (mw_preV hK hN hM (mo_n mw_n3) rfl) rfl rfl hl.1 rfl (lv_room (Nat.le_of_ble_eq_true rfl)) dmX13_putAt_21 ⟨(Nat.le_of_ble_eq_true rfl), (Nat.le_of_ble_eq_true rfl)⟩) (fun H locs hM => ?_)
          refine lv_aload_n hx hb dmX13_putAt_24 rfl (lv_at hl 0 rfl) ?_
          refine mg13_121 hx hb hT hown hK hM dmX13_putAt_25 ?_
          refine lv_aload_n hx hb dmX13_putAt_28 rfl (lv_at hl 0 rfl) ?_
          refine mg13_155 hx hb hT hown hK hM dmX13_putAt_29 ?_
          refine lv_iconst (v := 1) hx hb dmX13_putAt_32 (by decide) ?_
          refine tw_iald mX_ok hx hb hK hM mr_31 hq dmX13_putAt_33 (fun v4 hq => ?_)
          refine lv_aload_n hx hb dmX13_putAt_34 rfl (lv_at hl 0 rfl) ?_
          refine mg13_158 hx hb hT hown hK hM dmX13_putAt_35 ?_
          refine lv_iconst (v := 1) hx hb dmX13_putAt_38 (by decide) ?_
          refine tw_iald mX_ok hx hb hK hM mr_32 hq dmX13_putAt_39 (fun v5 hq => ?_)
          obtain ⟨z6, hcq, hq⟩ := tw_cl0 hq
          refine tw_calv hM (va_runV (As := [.int v4, .int v5]) (rest := []) ⟨hx, hb, hml, hown, hts⟩ (km_X12_add l D q u hU K 3000 v4 v5 mw_n3 z3 z6 hcq) (cwV 2 hts (tw_gV wM_good wq_87 wq_15 wq_16 wq_13 wq_6) rfl rfl rfl cd_X12_add ⟨(Nat.le_of_ble_eq_true rfl), (Nat.le_of_ble_eq_true rfl)⟩) (mw_preV hK hN hM (mo_n mw_n3) rfl) rfl rfl hl.1 rfl (lv_room (Nat.le_of_ble_eq_true rfl)) dmX13_putAt_40 ⟨(Nat.le_of_ble_eq_true rfl), (Nat.le_of_ble_eq_true rfl)⟩) (fun H locs hM => ?_)
          exact ih_1 x1 x2 x3 z6 H locs ls hM (lv_sub hl [0, 1, 2, 3] rfl) hq
      · intro x1 x2 x3 z H locs ls  hM hl hq
        have hq : qm_X13_putAt_1 K (q_X13_putAt K k) x1 x2 x3 z = some z1 := hq
        unfold qm_X13_putAt_1 at hq
        refine lv_iload_n hx hb dmX13_putAt_43 rfl (lv_at hl 1 rfl) ?_
        refine lv_iload_n hx hb dmX13_putAt_44 rfl (lv_at hl 3 rfl) ?_
        refine lv_icmp_ne (tgt := 86) hx hb dmX13_putAt_45 (by decide) (fun hc => ?_) (fun hc => ?_)
        · have hq := tw_if hq hc
          exact mw_vret hx hb hr hlocks hM hq hQQ dmX13_putAt_86
        · have hq := tw_it hq hc
          refine lv_aload_n hx hb dmX13_putAt_48 rfl (lv_at hl 0 rfl) ?_
          refine mg13_121 hx hb hT hown hK hM dmX13_putAt_49 ?_
          refine lv_aload_n hx hb dmX13_putAt_52 rfl (lv_at hl 0 rfl) ?_
          refine mg13_155 hx hb hT hown hK hM dmX13_putAt_53 ?_
          refine lv_iconst (v := 2) hx hb dmX13_putAt_56 (by decide) ?_
          refine tw_iald mX_ok hx hb hK hM mr_31 hq dmX13_putAt_57 (fun v7 hq => ?_)
          refine lv_aload_n hx hb dmX13_putAt_58 rfl (lv_at hl 0 rfl) ?_
          refine mg13_158 hx hb hT hown hK hM dmX13_putAt_59 ?_
          refine lv_iconst (v := 2) hx hb dmX13_putAt_62 (by decide) ?_
          refine tw_iald mX_ok hx hb hK hM mr_32 hq dmX13_putAt_63 (fun v8 hq => ?_)
          obtain ⟨z9, hcq, hq⟩ := tw_cl0 hq
          refine tw_calv hM (va_runV (As := [.int v7, .int v8]) (rest := []) ⟨hx, hb, hml, hown, hts⟩ (km_X12_add l D q u hU K 3000 v7 v8 mw_n3 z z9 hcq) (cwV 2 hts (tw_gV wM_good wq_87 wq_15 wq_16 wq_13 wq_6) rfl rfl rfl cd_X12_add ⟨(Nat.le_of_ble_eq_true rfl), (Nat.le_of_ble_eq_true rfl)⟩) (mw_preV hK hN hM (mo_n mw_n3) rfl) rfl rfl hl.1 rfl (lv_room (Nat.le_of_ble_eq_true rfl)) dmX13_putAt_64 ⟨(Nat.le_of_ble_eq_true rfl), (Nat.le_of_ble_eq_true rfl)⟩) (fun H locs hM => ?_)
          refine lv_aload_n hx hb dmX13_putAt_67 rfl (lv_at hl 0 rfl) ?_
          refine mg13_121 hx hb hT hown hK hM dmX13_putAt_68 ?_
          refine lv_aload_n hx hb dmX13_putAt_71 rfl (lv_at hl 0 rfl) ?_
          refine mg13_155 hx hb hT hown hK hM dmX13_putAt_72 ?_
          refine lv_iconst (v := 3) hx hb dmX13_putAt_75 (by decide) ?_
          refine tw_iald mX_ok hx hb hK hM mr_31 hq dmX13_putAt_76 (fun v10 hq => ?_)
          refine lv_aload_n hx hb dmX13_putAt_77 rfl (lv_at hl 0 rfl) ?_
          refine mg13_158 hx hb hT hown hK hM dmX13_putAt_78 ?_
          refine lv_iconst (v := 3) hx hb dmX13_putAt_81 (by decide) ?_
          refine tw_iald mX_ok hx hb hK hM mr_32 hq dmX13_putAt_82 (fun v11 hq => ?_)
          obtain ⟨z12, hcq, hq⟩ := tw_cl0 hq
          refine tw_calv hM (va_runV (As := [.int v10, .int v11]) (rest := []) ⟨hx, hb, hml, hown, hts⟩ (km_X12_add l D q u hU K 3000 v10 v11 mw_n3 z9 z12 hcq) (cwV 2 hts (tw_gV wM_good wq_87 wq_15 wq_16 wq_13 wq_6) rfl rfl rfl cd_X12_add ⟨(Nat.le_of_ble_eq_true rfl), (Nat.le_of_ble_eq_true rfl)⟩) (mw_preV hK hN hM (mo_n mw_n3) rfl) rfl rfl hl.1 rfl (lv_room (Nat.le_of_ble_eq_true rfl)) dmX13_putAt_83 ⟨(Nat.le_of_ble_eq_true rfl), (Nat.le_of_ble_eq_true rfl)⟩) (fun H locs hM => ?_)
          exact mw_vret hx hb hr hlocks hM hq hQQ dmX13_putAt_86
  exact (key K).1 x1 x2 x3 z s.heap [] ls  hM (lv_sub hl [0, 1, 2, 3] rfl) hq
theorem dmX13_build_0 : decode cX13_build 0 = .ok (.aload_n 0, 1) := dw_at cX13_build_k0 (p := 0) rfl (by decide +kernel)
theorem dmX13_build_1 : decode cX13_build 1 = .ok (.getfield 121, 3) := dw_at cX13_build_k0 (p := 1) rfl (by decide +kernel)
theorem dmX13_build_4 : decode cX13_build 4 = .ok (.invokevirtual 91, 3) := dw_at cX13_build_k0 (p := 4) rfl (by decide +kernel)
theorem dmX13_build_7 : decode cX13_build 7 = .ok (.iconst 0, 1) := dw_at cX13_build_k0 (p := 7) rfl (by decide +kernel)
theorem dmX13_build_8 : decode cX13_build 8 = .ok (.istore 4, 2) := dw_at cX13_build_k0 (p := 8) rfl (by decide +kernel)
theorem dmX13_build_10 : decode cX13_build 10 = .ok (.iload 4, 2) := dw_at cX13_build_k0 (p := 10) rfl (by decide +kernel)
theorem dmX13_build_12 : decode cX13_build 12 = .ok (.aload_n 1, 1) := dw_at cX13_build_k0 (p := 12) rfl (by decide +kernel)
theorem dmX13_build_13 : decode cX13_build 13 = .ok (.getfield 407, 3) := dw_at cX13_build_k0 (p := 13) rfl (by decide +kernel)
theorem dmX13_build_16 : decode cX13_build 16 = .ok (.if_icmp .ge 96, 3) := dw_at cX13_build_k0 (p := 16) rfl (by decide +kernel)
theorem dmX13_build_19 : decode cX13_build 19 = .ok (.aload_n 1, 1) := dw_at cX13_build_k0 (p := 19) rfl (by decide +kernel)
theorem dmX13_build_20 : decode cX13_build 20 = .ok (.iload 4, 2) := dw_at cX13_build_k0 (p := 20) rfl (by decide +kernel)
theorem dmX13_build_22 : decode cX13_build 22 = .ok (.invokevirtual 427, 3) := dw_at cX13_build_k0 (p := 22) rfl (by decide +kernel)
theorem dmX13_build_25 : decode cX13_build 25 = .ok (.ifCond .eq 16, 3) := dw_at cX13_build_k1 (p := 0) rfl (by decide +kernel)
theorem dmX13_build_28 : decode cX13_build 28 = .ok (.aload_n 0, 1) := dw_at cX13_build_k1 (p := 3) rfl (by decide +kernel)
theorem dmX13_build_29 : decode cX13_build 29 = .ok (.aload_n 1, 1) := dw_at cX13_build_k1 (p := 4) rfl (by decide +kernel)
theorem dmX13_build_30 : decode cX13_build 30 = .ok (.getfield 44, 3) := dw_at cX13_build_k1 (p := 5) rfl (by decide +kernel)
theorem dmX13_build_33 : decode cX13_build 33 = .ok (.iload 4, 2) := dw_at cX13_build_k1 (p := 8) rfl (by decide +kernel)
theorem dmX13_build_35 : decode cX13_build 35 = .ok (.iadd, 1) := dw_at cX13_build_k1 (p := 10) rfl (by decide +kernel)
theorem dmX13_build_36 : decode cX13_build 36 = .ok (.iload_n 2, 1) := dw_at cX13_build_k1 (p := 11) rfl (by decide +kernel)
theorem dmX13_build_37 : decode cX13_build 37 = .ok (.iload_n 3, 1) := dw_at cX13_build_k1 (p := 12) rfl (by decide +kernel)
theorem dmX13_build_38 : decode cX13_build 38 = .ok (.invokevirtual 494, 3) := dw_at cX13_build_k1 (p := 13) rfl (by decide +kernel)
theorem dmX13_build_41 : decode cX13_build 41 = .ok (.aload_n 1, 1) := dw_at cX13_build_k1 (p := 16) rfl (by decide +kernel)
theorem dmX13_build_42 : decode cX13_build 42 = .ok (.getfield 452, 3) := dw_at cX13_build_k1 (p := 17) rfl (by decide +kernel)
theorem dmX13_build_45 : decode cX13_build 45 = .ok (.iload 4, 2) := dw_at cX13_build_k1 (p := 20) rfl (by decide +kernel)
theorem dmX13_build_47 : decode cX13_build 47 = .ok (.iaload, 1) := dw_at cX13_build_k1 (p := 22) rfl (by decide +kernel)
theorem dmX13_build_48 : decode cX13_build 48 = .ok (.istore 5, 2) := dw_at cX13_build_k1 (p := 23) rfl (by decide +kernel)
theorem dmX13_build_50 : decode cX13_build 50 = .ok (.iload 5, 2) := dw_at cX13_build_k2 (p := 0) rfl (by decide +kernel)
theorem dmX13_build_52 : decode cX13_build 52 = .ok (.aload_n 1, 1) := dw_at cX13_build_k2 (p := 2) rfl (by decide +kernel)
theorem dmX13_build_53 : decode cX13_build 53 = .ok (.getfield 452, 3) := dw_at cX13_build_k2 (p := 3) rfl (by decide +kernel)
theorem dmX13_build_56 : decode cX13_build 56 = .ok (.iload 4, 2) := dw_at cX13_build_k2 (p := 6) rfl (by decide +kernel)
theorem dmX13_build_58 : decode cX13_build 58 = .ok (.iconst 1, 1) := dw_at cX13_build_k2 (p := 8) rfl (by decide +kernel)
theorem dmX13_build_59 : decode cX13_build 59 = .ok (.iadd, 1) := dw_at cX13_build_k2 (p := 9) rfl (by decide +kernel)
theorem dmX13_build_60 : decode cX13_build 60 = .ok (.iaload, 1) := dw_at cX13_build_k2 (p := 10) rfl (by decide +kernel)
theorem dmX13_build_61 : decode cX13_build 61 = .ok (.if_icmp .ge 38, 3) := dw_at cX13_build_k2 (p := 11) rfl (by decide +kernel)
theorem dmX13_build_64 : decode cX13_build 64 = .ok (.aload_n 0, 1) := dw_at cX13_build_k2 (p := 14) rfl (by decide +kernel)
theorem dmX13_build_65 : decode cX13_build 65 = .ok (.getfield 121, 3) := dw_at cX13_build_k2 (p := 15) rfl (by decide +kernel)
theorem dmX13_build_68 : decode cX13_build 68 = .ok (.aload_n 1, 1) := dw_at cX13_build_k2 (p := 18) rfl (by decide +kernel)
theorem dmX13_build_69 : decode cX13_build 69 = .ok (.getfield 23, 3) := dw_at cX13_build_k2 (p := 19) rfl (by decide +kernel)
theorem dmX13_build_72 : decode cX13_build 72 = .ok (.iload 5, 2) := dw_at cX13_build_k2 (p := 22) rfl (by decide +kernel)
theorem dmX13_build_74 : decode cX13_build 74 = .ok (.iaload, 1) := dw_at cX13_build_k3 (p := 0) rfl (by decide +kernel)
theorem dmX13_build_75 : decode cX13_build 75 = .ok (.aload_n 1, 1) := dw_at cX13_build_k3 (p := 1) rfl (by decide +kernel)
theorem dmX13_build_76 : decode cX13_build 76 = .ok (.getfield 32, 3) := dw_at cX13_build_k3 (p := 2) rfl (by decide +kernel)
theorem dmX13_build_79 : decode cX13_build 79 = .ok (.iload 5, 2) := dw_at cX13_build_k3 (p := 5) rfl (by decide +kernel)
theorem dmX13_build_81 : decode cX13_build 81 = .ok (.iaload, 1) := dw_at cX13_build_k3 (p := 7) rfl (by decide +kernel)
theorem dmX13_build_82 : decode cX13_build 82 = .ok (.invokevirtual 97, 3) := dw_at cX13_build_k3 (p := 8) rfl (by decide +kernel)
theorem dmX13_build_85 : decode cX13_build 85 = .ok (.aload_n 0, 1) := dw_at cX13_build_k3 (p := 11) rfl (by decide +kernel)
theorem dmX13_build_86 : decode cX13_build 86 = .ok (.iload 5, 2) := dw_at cX13_build_k3 (p := 12) rfl (by decide +kernel)
theorem dmX13_build_88 : decode cX13_build 88 = .ok (.iload_n 2, 1) := dw_at cX13_build_k3 (p := 14) rfl (by decide +kernel)
theorem dmX13_build_89 : decode cX13_build 89 = .ok (.iload_n 3, 1) := dw_at cX13_build_k3 (p := 15) rfl (by decide +kernel)
theorem dmX13_build_90 : decode cX13_build 90 = .ok (.invokevirtual 494, 3) := dw_at cX13_build_k3 (p := 16) rfl (by decide +kernel)
theorem dmX13_build_93 : decode cX13_build 93 = .ok (.iinc 5 1, 3) := dw_at cX13_build_k3 (p := 19) rfl (by decide +kernel)
theorem dmX13_build_96 : decode cX13_build 96 = .ok (.goto (-46), 3) := dw_at cX13_build_k3 (p := 22) rfl (by decide +kernel)
theorem dmX13_build_99 : decode cX13_build 99 = .ok (.aload_n 0, 1) := dw_at cX13_build_k4 (p := 0) rfl (by decide +kernel)
theorem dmX13_build_100 : decode cX13_build 100 = .ok (.getfield 121, 3) := dw_at cX13_build_k4 (p := 1) rfl (by decide +kernel)
theorem dmX13_build_103 : decode cX13_build 103 = .ok (.invokevirtual 94, 3) := dw_at cX13_build_k4 (p := 4) rfl (by decide +kernel)
theorem dmX13_build_106 : decode cX13_build 106 = .ok (.iinc 4 1, 3) := dw_at cX13_build_k4 (p := 7) rfl (by decide +kernel)
theorem dmX13_build_109 : decode cX13_build 109 = .ok (.goto (-99), 3) := dw_at cX13_build_k4 (p := 10) rfl (by decide +kernel)
theorem dmX13_build_112 : decode cX13_build 112 = .ok (.iconst 0, 1) := dw_at cX13_build_k4 (p := 13) rfl (by decide +kernel)
theorem dmX13_build_113 : decode cX13_build 113 = .ok (.istore 4, 2) := dw_at cX13_build_k4 (p := 14) rfl (by decide +kernel)
theorem dmX13_build_115 : decode cX13_build 115 = .ok (.iload 4, 2) := dw_at cX13_build_k4 (p := 16) rfl (by decide +kernel)
theorem dmX13_build_117 : decode cX13_build 117 = .ok (.aload_n 1, 1) := dw_at cX13_build_k4 (p := 18) rfl (by decide +kernel)
theorem dmX13_build_118 : decode cX13_build 118 = .ok (.getfield 44, 3) := dw_at cX13_build_k4 (p := 19) rfl (by decide +kernel)
theorem dmX13_build_121 : decode cX13_build 121 = .ok (.iconst 2, 1) := dw_at cX13_build_k4 (p := 22) rfl (by decide +kernel)
theorem dmX13_build_122 : decode cX13_build 122 = .ok (.idiv, 1) := dw_at cX13_build_k4 (p := 23) rfl (by decide +kernel)
theorem dmX13_build_123 : decode cX13_build 123 = .ok (.if_icmp .ge 26, 3) := dw_at cX13_build_k5 (p := 0) rfl (by decide +kernel)
theorem dmX13_build_126 : decode cX13_build 126 = .ok (.aload_n 0, 1) := dw_at cX13_build_k5 (p := 3) rfl (by decide +kernel)
theorem dmX13_build_127 : decode cX13_build 127 = .ok (.getfield 121, 3) := dw_at cX13_build_k5 (p := 4) rfl (by decide +kernel)
theorem dmX13_build_130 : decode cX13_build 130 = .ok (.getfield 35, 3) := dw_at cX13_build_k5 (p := 7) rfl (by decide +kernel)
theorem dmX13_build_133 : decode cX13_build 133 = .ok (.iload 4, 2) := dw_at cX13_build_k5 (p := 10) rfl (by decide +kernel)
theorem dmX13_build_135 : decode cX13_build 135 = .ok (.aload_n 1, 1) := dw_at cX13_build_k5 (p := 12) rfl (by decide +kernel)
theorem dmX13_build_136 : decode cX13_build 136 = .ok (.getfield 35, 3) := dw_at cX13_build_k5 (p := 13) rfl (by decide +kernel)
theorem dmX13_build_139 : decode cX13_build 139 = .ok (.iload 4, 2) := dw_at cX13_build_k5 (p := 16) rfl (by decide +kernel)
theorem dmX13_build_141 : decode cX13_build 141 = .ok (.iaload, 1) := dw_at cX13_build_k5 (p := 18) rfl (by decide +kernel)
theorem dmX13_build_142 : decode cX13_build 142 = .ok (.iastore, 1) := dw_at cX13_build_k5 (p := 19) rfl (by decide +kernel)
theorem dmX13_build_143 : decode cX13_build 143 = .ok (.iinc 4 1, 3) := dw_at cX13_build_k5 (p := 20) rfl (by decide +kernel)
theorem dmX13_build_146 : decode cX13_build 146 = .ok (.goto (-31), 3) := dw_at cX13_build_k5 (p := 23) rfl (by decide +kernel)
theorem dmX13_build_149 : decode cX13_build 149 = .ok (.return_, 1) := dw_at cX13_build_k5 (p := 26) rfl (by decide +kernel)
def qm_X13_build_0 (K : Nat) (go : Nat → Int32 → Int32 → Int32 → Int32 → Nat → ow_MS → Option ow_MS) (x2 : Int32) (x3 : Int32) (x4 : Int32) (x5 : Int32) (r1 : Nat) (z : ow_MS) : Option ow_MS :=
 cs0 (qe_X12_clear K 3000 z) fun z1 => go 1 x2 x3 0 0 r1 z1
def qm_X13_build_1 (K : Nat) (go : Nat → Int32 → Int32 → Int32 → Int32 → Nat → ow_MS → Option ow_MS) (x2 : Int32) (x3 : Int32) (x4 : Int32) (x5 : Int32) (r1 : Nat) (z : ow_MS) : Option ow_MS :=
 rdF z (r1 + 2) fun v2 => (if v2 ≤ x4 then go 4 x2 x3 0 0 r1 z
 else cs1 (qe_X12_isCircle K r1 x4 z) fun v4 z3 => (if v4 = 0 then go 2 x2 x3 x4 0 r1 z3
 else rdF z3 (r1 + 1) fun v5 => cs0 (qe_X13_putAt K (v5 + x4) x2 x3 z3) fun z6 => go 2 x2 x3 x4 0 r1 z6))
def qm_X13_build_2 (K : Nat) (go : Nat → Int32 → Int32 → Int32 → Int32 → Nat → ow_MS → Option ow_MS) (x2 : Int32) (x3 : Int32) (x4 : Int32) (x5 : Int32) (r1 : Nat) (z : ow_MS) : Option ow_MS :=
 rdI mX z (r1 + 3) x4 fun v7 => go 3 x2 x3 x4 v7 r1 z
def qm_X13_build_3 (K : Nat) (go : Nat → Int32 → Int32 → Int32 → Int32 → Nat → ow_MS → Option ow_MS) (x2 : Int32) (x3 : Int32) (x4 : Int32) (x5 : Int32) (r1 : Nat) (z : ow_MS) : Option ow_MS :=
 rdI mX z (r1 + 3) (x4 + 1) fun v8 => (if v8 ≤ x5 then cs0 (qe_X12_end K 3000 z) fun z9 => go 1 x2 x3 (x4 + 1) 0 r1 z9
 else rdI mX z (r1 + 4) x5 fun v10 => rdI mX z (r1 + 5) x5 fun v11 => cs0 (qe_X12_add K 3000 v10 v11 z) fun z12 => cs0 (qe_X13_putAt K x5 x2 x3 z12) fun z13 => go 3 x2 x3 x4 (x5 + 1) r1 z13)
def qm_X13_build_4 (K : Nat) (go : Nat → Int32 → Int32 → Int32 → Int32 → Nat → ow_MS → Option ow_MS) (x2 : Int32) (x3 : Int32) (x4 : Int32) (x5 : Int32) (r1 : Nat) (z : ow_MS) : Option ow_MS :=
 rdF z (r1 + 1) fun v14 => nzI 2 ((if (v14 / 2) ≤ x4 then some z
 else rdI mX z (r1 + 6) x4 fun v15 => wrI mX z (3000 + 6) x4 v15 fun z16 => go 4 x2 x3 (x4 + 1) 0 r1 z16))
def qb_X13_build (K : Nat) (go : Nat → Int32 → Int32 → Int32 → Int32 → Nat → ow_MS → Option ow_MS) (L : Nat) (x2 : Int32) (x3 : Int32) (x4 : Int32) (x5 : Int32) (r1 : Nat) (z : ow_MS) : Option ow_MS := match L with
  | 0 => qm_X13_build_0 K go x2 x3 x4 x5 r1 z
  | 1 => qm_X13_build_1 K go x2 x3 x4 x5 r1 z
  | 2 => qm_X13_build_2 K go x2 x3 x4 x5 r1 z
  | 3 => qm_X13_build_3 K go x2 x3 x4 x5 r1 z
  | 4 => qm_X13_build_4 K go x2 x3 x4 x5 r1 z
  | _ => none
def q_X13_build (K : Nat) : Nat → Nat → Int32 → Int32 → Int32 → Int32 → Nat → ow_MS → Option ow_MS
  | 0 => fun _ _ _ _ _ _ _ => none
  | k + 1 => qb_X13_build K (q_X13_build K k)
def qe_X13_build (K : Nat) (r1 : Nat) (x2 : Int32) (x3 : Int32) (z : ow_MS) : Option ow_MS := q_X13_build K K 0 x2 x3 0 0 r1 z
abbrev wm_X13_build : List Cond := .code yX13_build cX13_build 6 none :: wM
theorem cd_X13_build : yX13_build.cls = RX13 ∧ yX13_build.cls ≠ "java/lang/invoke/MethodHandle" ∧ yX13_build.cls ≠ "java/lang/invoke/VarHandle" ∧ (parseMethodDescriptor yX13_build.desc).map (fun d => d.parameters.length) = some 3 := by decide +kernel
set_option maxHeartbeats 4000000 in
set_option maxRecDepth 100000 in
theorem km_X13_build (l : Launch) (D : va_G) (q : ow_Q5) (u : Nat → Nat) (hU : tw_inj mX u) (K : Nat) (r1 : Nat) (x2 : Int32) (x3 : Int32) (hr1 : mw_net r1) (z z1 : ow_MS) (hq : qe_X13_build K r1 x2 x3 z = some z1) : Met l yX13_build wm_X13_build ({ frames := 2, cells := 0, slots := 0, locals := 45 } : Room) (va_Pc [.ref (u 0), .ref (u r1), .int x2, .int x3] (mw_pre D q u z)) (va_Qv (fun (_ : Unit) => True) (fun _ t => va_P D vwCl (tw mX q u z1) t.heap) (tw_A mX u)) 0 0 (tw_A mX u) := by
  refine Met.ofW (cc := cX13_build) (maxL := 6) (ret := none) (by decide) rfl ?_
  intro p e s m args below meth c s₁ B hml hv
  obtain ⟨rfl, hP, hK, hN⟩ := hv
  have hx := B.exec
  have hb := B.bytes
  have hr := B.returns
  have hts := atoms_spec (ws := wm_X13_build) B.pre
  have hT : ∀ w ∈ wM, w.before ([.ref (u 0), .ref (u r1), .int x2, .int x3] : List Value).toArray s = true := fun w h => hts w (List.mem_cons_of_mem _ h)
  have hown : s.vm.findClass RX13 = some m.cls := findClass_of_methodNamed B.named
  have hlocks := B.notSynchronized
  have hM : tw_M D vwCl mX q s.heap u z s.heap [] := ⟨hP, va_S.rf⟩
  have hl := lv_entry ([.ref (u 0), .ref (u r1), .int x2, .int x3]) (n := 6) (Nat.le_of_ble_eq_true rfl)
  rw [lg_entry_eq]
  generalize (lg_sl ([.ref (u 0), .ref (u r1), .int x2, .int x3]) ++ List.replicate (6 - (lg_sl ([.ref (u 0), .ref (u r1), .int x2, .int x3])).length) Slot.unset).toArray = ls at hl ⊢
  have hl : lv_has ls 6 [(0, .ref (u 0)), (1, .ref (u r1)), (2, .int x2), (3, .int x3)] := hl
  refine ow_named (fun QQ hQQ => ?_)
  generalize ([.ref (u 0), .ref (u r1), .int x2, .int x3] : List Value).toArray = args at hts hT hQQ ⊢
  have key : ∀ k : Nat, (∀ (x2 : Int32) (x3 : Int32) (x4 : Int32) (x5 : Int32) (r1 : Nat) (z : ow_MS) (H : Heap) (locs : List Loc) (ls : Array Slot), mw_net r1 → tw_M D vwCl mX q s.heap u z H locs → lv_has ls 6 [(0, .ref (u 0)), (1, .ref (u r1)), (2, .int x2), (3, .int x3)] → q_X13_build K k 0 x2 x3 x4 x5 r1 z = some z1 → W p l e ({ frames := 2, cells := 0, slots := 0, locals := 45 } : Room) s m args below meth c H locs 0 0 QQ (F0 m 0 ls [])) ∧ (∀ (x2 : Int32) (x3 : Int32) (x4 : Int32) (x5 : Int32) (r1 : Nat) (z : ow_MS) (H : Heap) (locs : List Loc) (ls : Array Slot), mw_net r1 → tw_M D vwCl mX q s.heap u z H locs → lv_has ls 6 [(0, .ref (u 0)), (1, .ref (u r1)), (2, .int x2), (3, .int x3), (4, .int x4)] → q_X13_build K k 1 x2 x3 x4 x5 r1 z = some z1 → W p l e ({ frames := 2, cells := 0, slots := 0, locals := 45 } : Room) s m args below meth c H locs 0 0 QQ (F0 m 10 ls [])) ∧ (∀ (x2 : Int32) (x3 : Int32) (x4 : Int32) (x5 : Int32) (r1 : Nat) (z : ow_MS) (H : Heap) (locs : List Loc) (ls : Array Slot), mw_net r1 → tw_M D vwCl mX q s.heap u z H locs → lv_has ls 6 [(0, .ref (u 0)), (1, .ref (u r1)), (2, .int x2), (3, .int x3), (4, .int x4)] → q_X13_build K k 2 x2 x3 x4 x5 r1 z = some z1 → W p l e ({ frames := 2, cells := 0, slots := 0, locals := 45 } : Room) s m args below meth c H locs 0 0 QQ (F0 m 41 ls [])) ∧ (∀ (x2 : Int32) (x3 : Int32) (x4 : Int32) (x5 : Int32) (r1 : Nat) (z : ow_MS) (H : Heap) (locs : List Loc) (ls : Array Slot), mw_net r1 → tw_M D vwCl mX q s.heap u z H locs → lv_has ls 6 [(0, .ref (u 0)), (1, .ref (u r1)), (2, .int x2), (3, .int x3), (4, .int x4), (5, .int x5)] → q_X13_build K k 3 x2 x3 x4 x5 r1 z = some z1 → W p l e ({ frames := 2, cells := 0, slots := 0, locals := 45 } : Room) s m args below meth c H locs 0 0 QQ (F0 m 50 ls [])) ∧ (∀ (x2 : Int32) (x3 : Int32) (x4 : Int32) (x5 : Int32) (r1 : Nat) (z : ow_MS) (H : Heap) (locs : List Loc) (ls : Array Slot), mw_net r1 → tw_M D vwCl mX q s.heap u z H locs → lv_has ls 6 [(0, .ref (u 0)), (1, .ref (u r1)), (2, .int x2), (3, .int x3), (4, .int x4)] → q_X13_build K k 4 x2 x3 x4 x5 r1 z = some z1 → W p l e ({ frames := 2, cells := 0, slots := 0, locals := 45 } : Room) s m args below meth c H locs 0 0 QQ (F0 m 115 ls [])) := by
    intro k
    induction k with
    | zero => exact ⟨fun _ _ _ _ _ _ _ _ _ _ _ _ hq => tw_no hq, fun _ _ _ _ _ _ _ _ _ _ _ _ hq => tw_no hq, fun _ _ _ _ _ _ _ _ _ _ _ _ hq => tw_no hq, fun _ _ _ _ _ _ _ _ _ _ _ _ hq => tw_no hq, fun _ _ _ _ _ _ _ _ _ _ _ _ hq => tw_no hq⟩
    | succ k ih =>
      obtain ⟨ih_0, ih_1, ih_2, ih_3, ih_4⟩ := ih
      refine ⟨?_, ?_, ?_, ?_, ?_⟩
      · intro x2 x3 x4 x5 r1 z H locs ls hr1 hM hl hq
        have hq : qm_X13_build_0 K (q_X13_build K k) x2 x3 x4 x5 r1 z = some z1 := hq
        unfold qm_X13_build_0 at hq
        refine lv_aload_n hx hb dmX13_build_0 rfl (lv_at hl 0 rfl) ?_
        refine mg13_121 hx hb hT hown hK hM dmX13_build_1 ?_
        obtain ⟨z1, hcq, hq⟩ := tw_cl0 hq
        refine tw_calv hM (va_runV (As := []) (rest := []) ⟨hx, hb, hml, hown, hts⟩ (km_X12_clear l D q u hU K 3000 mw_n3 z z1 hcq) (cwV 0 hts (tw_gV wM_good wq_85 wq_11 wq_12 wq_13 wq_3) rfl rfl rfl cd_X12_clear ⟨(Nat.le_of_ble_eq_true rfl), (Nat.le_of_ble_eq_true rfl)⟩) (mw_preV hK hN hM (mo_n mw_n3) rfl) rfl rfl hl.1 rfl (lv_room (Nat.le_of_ble_eq_true rfl)) dmX13_build_4 ⟨(Nat.le_of_ble_eq_true rfl), (Nat.le_of_ble_eq_true rfl)⟩) (fun H locs hM => ?_)
        refine lv_iconst (v := 0) hx hb dmX13_build_7 (by decide) ?_
        refine lv_istore (lv' := [(4, .int 0), (0, .ref (u 0)), (1, .ref (u r1)), (2, .int x2), (3, .int x3)]) hx hb dmX13_build_8 hl (by decide) rfl (fun ls hl => ?_)
        exact ih_1 x2 x3 0 0 r1 z1 H locs ls hr1 hM (lv_sub hl [1, 2, 3, 4, 0] rfl) hq
      · intro x2 x3 x4 x5 r1 z H locs ls hr1 hM hl hq
        have hq : qm_X13_build_1 K (q_X13_build K k) x2 x3 x4 x5 r1 z = some z1 := hq
        unfold qm_X13_build_1 at hq
        refine lv_iload hx hb dmX13_build_10 (lv_at hl 4 rfl) ?_
        refine lv_aload_n hx hb dmX13_build_12 rfl (lv_at hl 1 rfl) ?_
        refine mg13_407 hx hb hT hown hK hM hN hr1 hq dmX13_build_13 (fun v2 hq => ?_)
        refine lv_icmp_ge (tgt := 112) hx hb dmX13_build_16 (by decide) (fun hc => ?_) (fun hc => ?_)
        · have hq := tw_it hq hc
          refine lv_iconst (v := 0) hx hb dmX13_build_112 (by decide) ?_
          refine lv_istore (lv' := [(4, .int 0), (0, .ref (u 0)), (1, .ref (u r1)), (2, .int x2), (3, .int x3)]) hx hb dmX13_build_113 hl (by decide) rfl (fun ls hl => ?_)
          exact ih_4 x2 x3 0 0 r1 z H locs ls hr1 hM (lv_sub hl [1, 2, 3, 4, 0] rfl) hq
        · have hq := tw_if hq hc
          refine lv_aload_n hx hb dmX13_build_19 rfl (lv_at hl 1 rfl) ?_
          refine lv_iload hx hb dmX13_build_20 (lv_at hl 4 rfl) ?_
          obtain ⟨v4, z3, hcq, hq⟩ := tw_cl1 hq
          refine tw_cali hM (va_runV (As := [.int x4]) (rest := []) ⟨hx, hb, hml, hown, hts⟩ (km_X12_isCircle l D q u hU K r1 x4 hr1 z z3 v4 hcq) (cwV 1 hts (tw_gV wM_good wq_131 wq_45 wq_46 wq_13 wq_24) rfl rfl rfl cd_X12_isCircle ⟨(Nat.le_of_ble_eq_true rfl), (Nat.le_of_ble_eq_true rfl)⟩) (mw_preV hK hN hM (mo_n hr1) rfl) rfl rfl hl.1 rfl (lv_room (Nat.le_of_ble_eq_true rfl)) dmX13_build_22 ⟨(Nat.le_of_ble_eq_true rfl), (Nat.le_of_ble_eq_true rfl)⟩) (fun H locs hM => ?_)
          refine lv_if_eq (tgt := 41) hx hb dmX13_build_25 (by decide) (fun hc => ?_) (fun hc => ?_)
          · have hq := tw_it hq hc
            exact ih_2 x2 x3 x4 0 r1 z3 H locs ls hr1 hM (lv_sub hl [0, 1, 2, 3, 4] rfl) hq
          · have hq := tw_if hq hc
            refine lv_aload_n hx hb dmX13_build_28 rfl (lv_at hl 0 rfl) ?_
            refine lv_aload_n hx hb dmX13_build_29 rfl (lv_at hl 1 rfl) ?_
            refine mg13_44 hx hb hT hown hK hM hN hr1 hq dmX13_build_30 (fun v5 hq => ?_)
            refine lv_iload hx hb dmX13_build_33 (lv_at hl 4 rfl) ?_
            refine lv_iadd hx hb dmX13_build_35 ?_
            refine lv_iload_n hx hb dmX13_build_36 rfl (lv_at hl 2 rfl) ?_
            refine lv_iload_n hx hb dmX13_build_37 rfl (lv_at hl 3 rfl) ?_
            obtain ⟨z6, hcq, hq⟩ := tw_cl0 hq
            refine tw_calv hM (va_runV (As := [.int (v5 + x4), .int x2, .int x3]) (rest := []) ⟨hx, hb, hml, hown, hts⟩ (km_X13_putAt l D q u hU K (v5 + x4) x2 x3 z3 z6 hcq) (cwV 3 hts (tw_gV wM_good wq_200 wq_201 wq_202 wq_61 wq_199) rfl rfl rfl cd_X13_putAt ⟨(Nat.le_of_ble_eq_true rfl), (Nat.le_of_ble_eq_true rfl)⟩) (mw_preV hK hN hM mo_0 rfl) rfl rfl hl.1 rfl (lv_room (Nat.le_of_ble_eq_true rfl)) dmX13_build_38 ⟨(Nat.le_of_ble_eq_true rfl), (Nat.le_of_ble_eq_true rfl)⟩) (fun H locs hM => ?_)
            exact ih_2 x2 x3 x4 0 r1 z6 H locs ls hr1 hM (lv_sub hl [0, 1, 2, 3, 4] rfl) hq
      · intro x2 x3 x4 x5 r1 z H locs ls hr1 hM hl hq
        have hq : qm_X13_build_2 K (q_X13_build K k) x2 x3 x4 x5 r1 z = some z1 := hq
        unfold qm_X13_build_2 at hq
        refine lv_aload_n hx hb dmX13_build_41 rfl (lv_at hl 1 rfl) ?_
        refine mg13_452 hx hb hT hown hK hM hN hr1 dmX13_build_42 ?_
        refine lv_iload hx hb dmX13_build_45 (lv_at hl 4 rfl) ?_
        refine tw_iald mX_ok hx hb hK hM (mrn_3 hr1) hq dmX13_build_47 (fun v7 hq => ?_)
        refine lv_istore (lv' := [(5, .int v7), (0, .ref (u 0)), (1, .ref (u r1)), (2, .int x2), (3, .int x3), (4, .int x4)]) hx hb dmX13_build_48 hl (by decide) rfl (fun ls hl => ?_)
        exact ih_3 x2 x3 x4 v7 r1 z H locs ls hr1 hM (lv_sub hl [1, 2, 3, 4, 5, 0] rfl) hq
      · intro x2 x3 x4 x5 r1 z H locs ls hr1 hM hl hq
        have hq : qm_X13_build_3 K (q_X13_build K k) x2 x3 x4 x5 r1 z = some z1 := hq
        unfold qm_X13_build_3 at hq
        refine lv_iload hx hb dmX13_build_50 (lv_at hl 5 rfl) ?_
        refine lv_aload_n hx hb dmX13_build_52 rfl (lv_at hl 1 rfl) ?_
        refine mg13_452 hx hb hT hown hK hM hN hr1 dmX13_build_53 ?_
        refine lv_iload hx hb dmX13_build_56 (lv_at hl 4 rfl) ?_
        refine lv_iconst (v := 1) hx hb dmX13_build_58 (by decide) ?_
        refine lv_iadd hx hb dmX13_build_59 ?_
        refine tw_iald mX_ok hx hb hK hM (mrn_3 hr1) hq dmX13_build_60 (fun v8 hq => ?_)
        refine lv_icmp_ge (tgt := 99) hx hb dmX13_build_61 (by decide) (fun hc => ?_) (fun hc => ?_)
        · have hq := tw_it hq hc
          refine lv_aload_n hx hb dmX13_build_99 rfl (lv_at hl 0 rfl) ?_
          refine mg13_121 hx hb hT hown hK hM dmX13_build_100 ?_
          obtain ⟨z9, hcq, hq⟩ := tw_cl0 hq
          refine tw_calv hM (va_runV (As := []) (rest := []) ⟨hx, hb, hml, hown, hts⟩ (km_X12_end l D q u hU K 3000 mw_n3 z z9 hcq) (cwV 0 hts (tw_gV wM_good wq_86 wq_18 wq_19 wq_13 wq_7) rfl rfl rfl cd_X12_end ⟨(Nat.le_of_ble_eq_true rfl), (Nat.le_of_ble_eq_true rfl)⟩) (mw_preV hK hN hM (mo_n mw_n3) rfl) rfl rfl hl.1 rfl (lv_room (Nat.le_of_ble_eq_true rfl)) dmX13_build_103 ⟨(Nat.le_of_ble_eq_true rfl), (Nat.le_of_ble_eq_true rfl)⟩) (fun H locs hM => ?_)
          refine lv_iinc (v := (x4 + 1)) (lv' := [(4, .int (x4 + 1)), (0, .ref (u 0)), (1, .ref (u r1)), (2, .int x2), (3, .int x3), (5, .int x5)]) hx hb dmX13_build_106 hl (k := 4) rfl rfl (by decide) rfl (fun ls hl => ?_)
          refine lv_goto (tgt := 10) hx hb dmX13_build_109 (by decide) ?_
          exact ih_1 x2 x3 (x4 + 1) 0 r1 z9 H locs ls hr1 hM (lv_sub hl [1, 2, 3, 4, 0] rfl) hq
        · have hq := tw_if hq hc
          refine lv_aload_n hx hb dmX13_build_64 rfl (lv_at hl 0 rfl) ?_
          refine mg13_121 hx hb hT hown hK hM dmX13_build_65 ?_
          refine lv_aload_n hx hb dmX13_build_68 rfl (lv_at hl 1 rfl) ?_
          refine mg13_23 hx hb hT hown hK hM hN hr1 dmX13_build_69 ?_
          refine lv_iload hx hb dmX13_build_72 (lv_at hl 5 rfl) ?_
          refine tw_iald mX_ok hx hb hK hM (mrn_4 hr1) hq dmX13_build_74 (fun v10 hq => ?_)
          refine lv_aload_n hx hb dmX13_build_75 rfl (lv_at hl 1 rfl) ?_
          refine mg13_32 hx hb hT hown hK hM hN hr1 dmX13_build_76 ?_
          refine lv_iload hx hb dmX13_build_79 (lv_at hl 5 rfl) ?_
          refine tw_iald mX_ok hx hb hK hM (mrn_5 hr1) hq dmX13_build_81 (fun v11 hq => ?_)
          obtain ⟨z12, hcq, hq⟩ := tw_cl0 hq
          refine tw_calv hM (va_runV (As := [.int v10, .int v11]) (rest := []) ⟨hx, hb, hml, hown, hts⟩ (km_X12_add l D q u hU K 3000 v10 v11 mw_n3 z z12 hcq) (cwV 2 hts (tw_gV wM_good wq_87 wq_15 wq_16 wq_13 wq_6) rfl rfl rfl cd_X12_add ⟨(Nat.le_of_ble_eq_true rfl), (Nat.le_of_ble_eq_true rfl)⟩) (mw_preV hK hN hM (mo_n mw_n3) rfl) rfl rfl hl.1 rfl (lv_room (Nat.le_of_ble_eq_true rfl)) dmX13_build_82 ⟨(Nat.le_of_ble_eq_true rfl), (Nat.le_of_ble_eq_true rfl)⟩) (fun H locs hM => ?_)
          refine lv_aload_n hx hb dmX13_build_85 rfl (lv_at hl 0 rfl) ?_
          refine lv_iload hx hb dmX13_build_86 (lv_at hl 5 rfl) ?_
          refine lv_iload_n hx hb dmX13_build_88 rfl (lv_at hl 2 rfl) ?_
          refine lv_iload_n hx hb dmX13_build_89 rfl (lv_at hl 3 rfl) ?_
          obtain ⟨z13, hcq, hq⟩ := tw_cl0 hq
          refine tw_calv hM (va_runV (As := [.int x5, .int x2, .int x3]) (rest := []) ⟨hx, hb, hml, hown, hts⟩ (km_X13_putAt l D q u hU K x5 x2 x3 z12 z13 hcq) (cwV 3 hts (tw_gV wM_good wq_200 wq_201 wq_202 wq_61 wq_199) rfl rfl rfl cd_X13_putAt ⟨(Nat.le_of_ble_eq_true rfl), (Nat.le_of_ble_eq_true rfl)⟩) (mw_preV hK hN hM mo_0 rfl) rfl rfl hl.1 rfl (lv_room (Nat.le_of_ble_eq_true rfl)) dmX13_build_90 ⟨(Nat.le_of_ble_eq_true rfl), (Nat.le_of_ble_eq_true rfl)⟩) (fun H locs hM => ?_)
          refine lv_iinc (v := (x5 + 1)) (lv' := [(5, .int (x5 + 1)), (0, .ref (u 0)), (1, .ref (u r1)), (2, .int x2), (3, .int x3), (4, .int x4)]) hx hb dmX13_build_93 hl (k := 5) rfl rfl (by decide) rfl (fun ls hl => ?_)
          refine lv_goto (tgt := 50) hx hb dmX13_build_96 (by decide) ?_
          exact ih_3 x2 x3 x4 (x5 + 1) r1 z13 H locs ls hr1 hM (lv_sub hl [1, 2, 3, 4, 5, 0] rfl) hq
      · intro x2 x3 x4 x5 r1 z H locs ls hr1 hM hl hq
        have hq : qm_X13_build_4 K (q_X13_build K k) x2 x3 x4 x5 r1 z = some z1 := hq
        unfold qm_X13_build_4 at hq
        refine lv_iload hx hb dmX13_build_115 (lv_at hl 4 rfl) ?_
        refine lv_aload_n hx hb dmX13_build_117 rfl (lv_at hl 1 rfl) ?_
        refine mg13_44 hx hb hT hown hK hM hN hr1 hq dmX13_build_118 (fun v14 hq => ?_)
        refine lv_iconst (v := 2) hx hb dmX13_build_121 (by decide) ?_
        obtain ⟨hz, hq⟩ := tw_nzI hq
        refine lv_idiv hx hb dmX13_build_122 hz ?_
        refine lv_icmp_ge (tgt := 149) hx hb dmX13_build_123 (by decide) (fun hc => ?_) (fun hc => ?_)
        · have hq := tw_it hq hc
          exact mw_vret hx hb hr hlocks hM hq hQQ dmX13_build_149
        · have hq := tw_if hq hc
          refine lv_aload_n hx hb dmX13_build_126 rfl (lv_at hl 0 rfl) ?_
          refine mg13_121 hx hb hT hown hK hM dmX13_build_127 ?_
          refine mg13_35 hx hb hT hown hK hM hN mw_n3 dmX13_build_130 ?_
          refine lv_iload hx hb dmX13_build_133 (lv_at hl 4 rfl) ?_
          refine lv_aload_n hx hb dmX13_build_135 rfl (lv_at hl 1 rfl) ?_
          refine mg13_35 hx hb hT hown hK hM hN hr1 dmX13_build_136 ?_
          refine lv_iload hx hb dmX13_build_139 (lv_at hl 4 rfl) ?_
          refine tw_iald mX_ok hx hb hK hM (mrn_6 hr1) hq dmX13_build_141 (fun v15 hq => ?_)
          refine tw_iast mX_ok hU hx hb hK hM (mrn_6 mw_n3) hq dmX13_build_142 (fun z16 H locs hM hq => ?_)
          refine lv_iinc (v := (x4 + 1)) (lv' := [(4, .int (x4 + 1)), (0, .ref (u 0)), (1, .ref (u r1)), (2, .int x2), (3, .int x3)]) hx hb dmX13_build_143 hl (k := 4) rfl rfl (by decide) rfl (fun ls hl => ?_)
          refine lv_goto (tgt := 115) hx hb dmX13_build_146 (by decide) ?_
          exact ih_4 x2 x3 (x4 + 1) 0 r1 z16 H locs ls hr1 hM (lv_sub hl [1, 2, 3, 4, 0] rfl) hq
  exact (key K).1 x2 x3 0 0 r1 z s.heap [] ls hr1 hM (lv_sub hl [0, 1, 2, 3] rfl) hq
theorem dmX13_isGap_0 : decode cX13_isGap 0 = .ok (.iload_n 1, 1) := by decide +kernel
theorem dmX13_isGap_1 : decode cX13_isGap 1 = .ok (.aload_n 0, 1) := by decide +kernel
theorem dmX13_isGap_2 : decode cX13_isGap 2 = .ok (.getfield 44, 3) := by decide +kernel
theorem dmX13_isGap_5 : decode cX13_isGap 5 = .ok (.if_icmp .lt 16, 3) := by decide +kernel
theorem dmX13_isGap_8 : decode cX13_isGap 8 = .ok (.aload_n 0, 1) := by decide +kernel
theorem dmX13_isGap_9 : decode cX13_isGap 9 = .ok (.iload_n 1, 1) := by decide +kernel
theorem dmX13_isGap_10 : decode cX13_isGap 10 = .ok (.aload_n 0, 1) := by decide +kernel
theorem dmX13_isGap_11 : decode cX13_isGap 11 = .ok (.getfield 44, 3) := by decide +kernel
theorem dmX13_isGap_14 : decode cX13_isGap 14 = .ok (.isub, 1) := by decide +kernel
theorem dmX13_isGap_15 : decode cX13_isGap 15 = .ok (.invokevirtual 427, 3) := by decide +kernel
theorem dmX13_isGap_18 : decode cX13_isGap 18 = .ok (.ifCond .eq 7, 3) := by decide +kernel
theorem dmX13_isGap_21 : decode cX13_isGap 21 = .ok (.iconst 1, 1) := by decide +kernel
theorem dmX13_isGap_22 : decode cX13_isGap 22 = .ok (.goto 4, 3) := by decide +kernel
theorem dmX13_isGap_25 : decode cX13_isGap 25 = .ok (.iconst 0, 1) := by decide +kernel
theorem dmX13_isGap_26 : decode cX13_isGap 26 = .ok (.ireturn, 1) := by decide +kernel
def qm_X13_isGap_0 (K : Nat) (go : Nat → Int32 → Nat → ow_MS → Option (Int32 × ow_MS)) (x1 : Int32) (r0 : Nat) (z : ow_MS) : Option (Int32 × ow_MS) :=
 rdF z (r0 + 1) fun v1 => (if x1 < v1 then go 1 x1 r0 z
 else rdF z (r0 + 1) fun v2 => cs1 (qe_X12_isCircle K r0 (x1 - v2) z) fun v4 z3 => (if v4 = 0 then okZ 0 (some (0, z3))
 else go 1 x1 r0 z3))
def qm_X13_isGap_1 (K : Nat) (go : Nat → Int32 → Nat → ow_MS → Option (Int32 × ow_MS)) (x1 : Int32) (r0 : Nat) (z : ow_MS) : Option (Int32 × ow_MS) :=
 okZ 1 (some (1, z))
def qb_X13_isGap (K : Nat) (go : Nat → Int32 → Nat → ow_MS → Option (Int32 × ow_MS)) (L : Nat) (x1 : Int32) (r0 : Nat) (z : ow_MS) : Option (Int32 × ow_MS) := match L with
  | 0 => qm_X13_isGap_0 K go x1 r0 z
  | 1 => qm_X13_isGap_1 K go x1 r0 z
  | _ => none
def q_X13_isGap (K : Nat) : Nat → Nat → Int32 → Nat → ow_MS → Option (Int32 × ow_MS)
  | 0 => fun _ _ _ _ => none
  | k + 1 => qb_X13_isGap K (q_X13_isGap K k)
def qe_X13_isGap (K : Nat) (r0 : Nat) (x1 : Int32) (z : ow_MS) : Option (Int32 × ow_MS) := q_X13_isGap K K 0 x1 r0 z
abbrev wm_X13_isGap : List Cond := .code yX13_isGap cX13_isGap 2 (some .boolean) :: wM
theorem cd_X13_isGap : yX13_isGap.cls ≠ "java/lang/invoke/MethodHandle" ∧ yX13_isGap.cls ≠ "java/lang/invoke/VarHandle" ∧ (parseMethodDescriptor yX13_isGap.desc).map (fun d => d.parameters.length) = some 2 := by decide +kernel
set_option maxHeartbeats 4000000 in
set_option maxRecDepth 100000 in
theorem km_X13_isGap (l : Launch) (D : va_G) (q : ow_Q5) (u : Nat → Nat) (hU : tw_inj mX u) (K : Nat) (r0 : Nat) (x1 : Int32) (hr0 : mw_net r0) (z z1 : ow_MS) (r : Int32) (hq : qe_X13_isGap K r0 x1 z = some (r, z1)) : Met l yX13_isGap wm_X13_isGap ({ frames := 1, cells := 0, slots := 0, locals := 21 } : Room) (va_Pc [.ref (u r0), .int x1] (mw_pre D q u z)) (va_Qi (fun x (_ : Unit) => x = r) (fun _ t => va_P D vwCl (tw mX q u z1) t.heap) (tw_A mX u)) 0 0 (tw_A mX u) := by
  refine Met.ofW (cc := cX13_isGap) (maxL := 2) (ret := (some .boolean)) (by decide) rfl ?_
  intro p e s m args below meth c s₁ B hml hv
  obtain ⟨rfl, hP, hK, hN⟩ := hv
  have hx := B.exec
  have hb := B.bytes
  have hr := B.returns
  have hts := atoms_spec (ws := wm_X13_isGap) B.pre
  have hT : ∀ w ∈ wM, w.before ([.ref (u r0), .int x1] : List Value).toArray s = true := fun w h => hts w (List.mem_cons_of_mem _ h)
  have hown : s.vm.findClass RX13 = some m.cls := findClass_of_methodNamed B.named
  have hlocks := B.notSynchronized
  have hM : tw_M D vwCl mX q s.heap u z s.heap [] := ⟨hP, va_S.rf⟩
  have hl := lv_entry ([.ref (u r0), .int x1]) (n := 2) (Nat.le_of_ble_eq_true rfl)
  rw [lg_entry_eq]
  generalize (lg_sl ([.ref (u r0), .int x1]) ++ List.replicate (2 - (lg_sl ([.ref (u r0), .int x1])).length) Slot.unset).toArray = ls at hl ⊢
  have hl : lv_has ls 2 [(0, .ref (u r0)), (1, .int x1)] := hl
  refine ow_named (fun QQ hQQ => ?_)
  generalize ([.ref (u r0), .int x1] : List Value).toArray = args at hts hT hQQ ⊢
  have key : ∀ k : Nat, (∀ (x1 : Int32) (r0 : Nat) (z : ow_MS) (H : Heap) (locs : List Loc) (ls : Array Slot), mw_net r0 → tw_M D vwCl mX q s.heap u z H locs → lv_has ls 2 [(0, .ref (u r0)), (1, .int x1)] → q_X13_isGap K k 0 x1 r0 z = some (r, z1) → W p l e ({ frames := 1, cells := 0, slots := 0, locals := 21 } : Room) s m args below meth c H locs 0 0 QQ (F0 m 0 ls [])) ∧ (∀ (x1 : Int32) (r0 : Nat) (z : ow_MS) (H : Heap) (locs : List Loc) (ls : Array Slot), mw_net r0 → tw_M D vwCl mX q s.heap u z H locs → lv_has ls 2 [(0, .ref (u r0)), (1, .int x1)] → q_X13_isGap K k 1 x1 r0 z = some (r, z1) → W p l e ({ frames := 1, cells := 0, slots := 0, locals := 21 } : Room) s m args below meth c H locs 0 0 QQ (F0 m 21 ls [])) := by
    intro k
    induction k with
    | zero => exact ⟨fun _ _ _ _ _ _ _ _ _ hq => tw_no hq, fun _ _ _ _ _ _ _ _ _ hq => tw_no hq⟩
    | succ k ih =>
      obtain ⟨ih_0, ih_1⟩ := ih
      refine ⟨?_, ?_⟩
      · intro x1 r0 z H locs ls hr0 hM hl hq
        have hq : qm_X13_isGap_0 K (q_X13_isGap K k) x1 r0 z = some (r, z1) := hq
        unfold qm_X13_isGap_0 at hq
        refine lv_iload_n hx hb dmX13_isGap_0 rfl (lv_at hl 1 rfl) ?_
        refine lv_aload_n hx hb dmX13_isGap_1 rfl (lv_at hl 0 rfl) ?_
        refine mg13_44 hx hb hT hown hK hM hN hr0 hq dmX13_isGap_2 (fun v1 hq => ?_)
        refine lv_icmp_lt (tgt := 21) hx hb dmX13_isGap_5 (by decide) (fun hc => ?_) (fun hc => ?_)
        · have hq := tw_it hq hc
          exact ih_1 x1 r0 z H locs ls hr0 hM (lv_sub hl [0, 1] rfl) hq
        · have hq := tw_if hq hc
          refine lv_aload_n hx hb dmX13_isGap_8 rfl (lv_at hl 0 rfl) ?_
          refine lv_iload_n hx hb dmX13_isGap_9 rfl (lv_at hl 1 rfl) ?_
          refine lv_aload_n hx hb dmX13_isGap_10 rfl (lv_at hl 0 rfl) ?_
          refine mg13_44 hx hb hT hown hK hM hN hr0 hq dmX13_isGap_11 (fun v2 hq => ?_)
          refine lv_isub hx hb dmX13_isGap_14 ?_
          obtain ⟨v4, z3, hcq, hq⟩ := tw_cl1 hq
          refine tw_cali hM (va_runV (As := [.int (x1 - v2)]) (rest := []) ⟨hx, hb, hml, hown, hts⟩ (km_X12_isCircle l D q u hU K r0 (x1 - v2) hr0 z z3 v4 hcq) (cwV 1 hts (tw_gV wM_good wq_131 wq_45 wq_46 wq_13 wq_24) rfl rfl rfl cd_X12_isCircle ⟨(Nat.le_of_ble_eq_true rfl), (Nat.le_of_ble_eq_true rfl)⟩) (mw_preV hK hN hM (mo_n hr0) rfl) rfl rfl hl.1 rfl (lv_room (Nat.le_of_ble_eq_true rfl)) dmX13_isGap_15 ⟨(Nat.le_of_ble_eq_true rfl), (Nat.le_of_ble_eq_true rfl)⟩) (fun H locs hM => ?_)
          refine lv_if_eq (tgt := 25) hx hb dmX13_isGap_18 (by decide) (fun hc => ?_) (fun hc => ?_)
          · have hq := tw_it hq hc
            refine lv_iconst (v := 0) hx hb dmX13_isGap_25 (by decide) ?_
            obtain ⟨hz, hq⟩ := tw_gZ hq
            exact mw_zret hx hb hr hlocks hM hz hq hQQ dmX13_isGap_26
          · have hq := tw_if hq hc
            exact ih_1 x1 r0 z3 H locs ls hr0 hM (lv_sub hl [0, 1] rfl) hq
      · intro x1 r0 z H locs ls hr0 hM hl hq
        have hq : qm_X13_isGap_1 K (q_X13_isGap K k) x1 r0 z = some (r, z1) := hq
        unfold qm_X13_isGap_1 at hq
        refine lv_iconst (v := 1) hx hb dmX13_isGap_21 (by decide) ?_
        refine lv_goto (tgt := 26) hx hb dmX13_isGap_22 (by decide) ?_
        obtain ⟨hz, hq⟩ := tw_gZ hq
        exact mw_zret hx hb hr hlocks hM hz hq hQQ dmX13_isGap_26
  exact (key K).1 x1 r0 z s.heap [] ls hr0 hM (lv_sub hl [0, 1] rfl) hq
theorem dmX13_oneComes_0 : decode cX13_oneComes 0 = .ok (.aload_n 1, 1) := dw_at cX13_oneComes_k0 (p := 0) rfl (by decide +kernel)
theorem dmX13_oneComes_1 : decode cX13_oneComes 1 = .ok (.getfield 44, 3) := dw_at cX13_oneComes_k0 (p := 1) rfl (by decide +kernel)
theorem dmX13_oneComes_4 : decode cX13_oneComes 4 = .ok (.iconst 2, 1) := dw_at cX13_oneComes_k0 (p := 4) rfl (by decide +kernel)
theorem dmX13_oneComes_5 : decode cX13_oneComes 5 = .ok (.idiv, 1) := dw_at cX13_oneComes_k0 (p := 5) rfl (by decide +kernel)
theorem dmX13_oneComes_6 : decode cX13_oneComes 6 = .ok (.istore_n 2, 1) := dw_at cX13_oneComes_k0 (p := 6) rfl (by decide +kernel)
theorem dmX13_oneComes_7 : decode cX13_oneComes 7 = .ok (.iconst 0, 1) := dw_at cX13_oneComes_k0 (p := 7) rfl (by decide +kernel)
theorem dmX13_oneComes_8 : decode cX13_oneComes 8 = .ok (.istore_n 3, 1) := dw_at cX13_oneComes_k0 (p := 8) rfl (by decide +kernel)
theorem dmX13_oneComes_9 : decode cX13_oneComes 9 = .ok (.iload_n 3, 1) := dw_at cX13_oneComes_k0 (p := 9) rfl (by decide +kernel)
theorem dmX13_oneComes_10 : decode cX13_oneComes 10 = .ok (.aload_n 1, 1) := dw_at cX13_oneComes_k0 (p := 10) rfl (by decide +kernel)
theorem dmX13_oneComes_11 : decode cX13_oneComes 11 = .ok (.getfield 44, 3) := dw_at cX13_oneComes_k0 (p := 11) rfl (by decide +kernel)
theorem dmX13_oneComes_14 : decode cX13_oneComes 14 = .ok (.aload_n 1, 1) := dw_at cX13_oneComes_k0 (p := 14) rfl (by decide +kernel)
theorem dmX13_oneComes_15 : decode cX13_oneComes 15 = .ok (.getfield 407, 3) := dw_at cX13_oneComes_k0 (p := 15) rfl (by decide +kernel)
theorem dmX13_oneComes_18 : decode cX13_oneComes 18 = .ok (.iadd, 1) := dw_at cX13_oneComes_k0 (p := 18) rfl (by decide +kernel)
theorem dmX13_oneComes_19 : decode cX13_oneComes 19 = .ok (.if_icmp .ge 85, 3) := dw_at cX13_oneComes_k0 (p := 19) rfl (by decide +kernel)
theorem dmX13_oneComes_22 : decode cX13_oneComes 22 = .ok (.iconst 0, 1) := dw_at cX13_oneComes_k0 (p := 22) rfl (by decide +kernel)
theorem dmX13_oneComes_23 : decode cX13_oneComes 23 = .ok (.istore 4, 2) := dw_at cX13_oneComes_k0 (p := 23) rfl (by decide +kernel)
theorem dmX13_oneComes_25 : decode cX13_oneComes 25 = .ok (.iload 4, 2) := dw_at cX13_oneComes_k1 (p := 0) rfl (by decide +kernel)
theorem dmX13_oneComes_27 : decode cX13_oneComes 27 = .ok (.iconst 4, 1) := dw_at cX13_oneComes_k1 (p := 2) rfl (by decide +kernel)
theorem dmX13_oneComes_28 : decode cX13_oneComes 28 = .ok (.if_icmp .ge 70, 3) := dw_at cX13_oneComes_k1 (p := 3) rfl (by decide +kernel)
theorem dmX13_oneComes_31 : decode cX13_oneComes 31 = .ok (.aload_n 1, 1) := dw_at cX13_oneComes_k1 (p := 6) rfl (by decide +kernel)
theorem dmX13_oneComes_32 : decode cX13_oneComes 32 = .ok (.iload_n 3, 1) := dw_at cX13_oneComes_k1 (p := 7) rfl (by decide +kernel)
theorem dmX13_oneComes_33 : decode cX13_oneComes 33 = .ok (.invokestatic 498, 3) := dw_at cX13_oneComes_k1 (p := 8) rfl (by decide +kernel)
theorem dmX13_oneComes_36 : decode cX13_oneComes 36 = .ok (.ifCond .eq 62, 3) := dw_at cX13_oneComes_k1 (p := 11) rfl (by decide +kernel)
theorem dmX13_oneComes_39 : decode cX13_oneComes 39 = .ok (.aload_n 0, 1) := dw_at cX13_oneComes_k1 (p := 14) rfl (by decide +kernel)
theorem dmX13_oneComes_40 : decode cX13_oneComes 40 = .ok (.iconst 0, 1) := dw_at cX13_oneComes_k1 (p := 15) rfl (by decide +kernel)
theorem dmX13_oneComes_41 : decode cX13_oneComes 41 = .ok (.iload_n 2, 1) := dw_at cX13_oneComes_k1 (p := 16) rfl (by decide +kernel)
theorem dmX13_oneComes_42 : decode cX13_oneComes 42 = .ok (.iload 4, 2) := dw_at cX13_oneComes_k1 (p := 17) rfl (by decide +kernel)
theorem dmX13_oneComes_44 : decode cX13_oneComes 44 = .ok (.iconst 1, 1) := dw_at cX13_oneComes_k1 (p := 19) rfl (by decide +kernel)
theorem dmX13_oneComes_45 : decode cX13_oneComes 45 = .ok (.iand, 1) := dw_at cX13_oneComes_k1 (p := 20) rfl (by decide +kernel)
theorem dmX13_oneComes_46 : decode cX13_oneComes 46 = .ok (.invokevirtual 502, 3) := dw_at cX13_oneComes_k1 (p := 21) rfl (by decide +kernel)
theorem dmX13_oneComes_49 : decode cX13_oneComes 49 = .ok (.aload_n 0, 1) := dw_at cX13_oneComes_k2 (p := 0) rfl (by decide +kernel)
theorem dmX13_oneComes_50 : decode cX13_oneComes 50 = .ok (.iconst 1, 1) := dw_at cX13_oneComes_k2 (p := 1) rfl (by decide +kernel)
theorem dmX13_oneComes_51 : decode cX13_oneComes 51 = .ok (.iload_n 2, 1) := dw_at cX13_oneComes_k2 (p := 2) rfl (by decide +kernel)
theorem dmX13_oneComes_52 : decode cX13_oneComes 52 = .ok (.iconst 1, 1) := dw_at cX13_oneComes_k2 (p := 3) rfl (by decide +kernel)
theorem dmX13_oneComes_53 : decode cX13_oneComes 53 = .ok (.iload 4, 2) := dw_at cX13_oneComes_k2 (p := 4) rfl (by decide +kernel)
theorem dmX13_oneComes_55 : decode cX13_oneComes 55 = .ok (.iconst 1, 1) := dw_at cX13_oneComes_k2 (p := 6) rfl (by decide +kernel)
theorem dmX13_oneComes_56 : decode cX13_oneComes 56 = .ok (.iand, 1) := dw_at cX13_oneComes_k2 (p := 7) rfl (by decide +kernel)
theorem dmX13_oneComes_57 : decode cX13_oneComes 57 = .ok (.isub, 1) := dw_at cX13_oneComes_k2 (p := 8) rfl (by decide +kernel)
theorem dmX13_oneComes_58 : decode cX13_oneComes 58 = .ok (.invokevirtual 502, 3) := dw_at cX13_oneComes_k2 (p := 9) rfl (by decide +kernel)
theorem dmX13_oneComes_61 : decode cX13_oneComes 61 = .ok (.aload_n 0, 1) := dw_at cX13_oneComes_k2 (p := 12) rfl (by decide +kernel)
theorem dmX13_oneComes_62 : decode cX13_oneComes 62 = .ok (.aload_n 1, 1) := dw_at cX13_oneComes_k2 (p := 13) rfl (by decide +kernel)
theorem dmX13_oneComes_63 : decode cX13_oneComes 63 = .ok (.iload_n 3, 1) := dw_at cX13_oneComes_k2 (p := 14) rfl (by decide +kernel)
theorem dmX13_oneComes_64 : decode cX13_oneComes 64 = .ok (.iconst (-1), 1) := dw_at cX13_oneComes_k2 (p := 15) rfl (by decide +kernel)
theorem dmX13_oneComes_65 : decode cX13_oneComes 65 = .ok (.invokevirtual 505, 3) := dw_at cX13_oneComes_k2 (p := 16) rfl (by decide +kernel)
theorem dmX13_oneComes_68 : decode cX13_oneComes 68 = .ok (.aload_n 0, 1) := dw_at cX13_oneComes_k2 (p := 19) rfl (by decide +kernel)
theorem dmX13_oneComes_69 : decode cX13_oneComes 69 = .ok (.getfield 121, 3) := dw_at cX13_oneComes_k2 (p := 20) rfl (by decide +kernel)
theorem dmX13_oneComes_72 : decode cX13_oneComes 72 = .ok (.getfield 35, 3) := dw_at cX13_oneComes_k2 (p := 23) rfl (by decide +kernel)
theorem dmX13_oneComes_75 : decode cX13_oneComes 75 = .ok (.iload_n 2, 1) := dw_at cX13_oneComes_k3 (p := 0) rfl (by decide +kernel)
theorem dmX13_oneComes_76 : decode cX13_oneComes 76 = .ok (.iload 4, 2) := dw_at cX13_oneComes_k3 (p := 1) rfl (by decide +kernel)
theorem dmX13_oneComes_78 : decode cX13_oneComes 78 = .ok (.iconst 2, 1) := dw_at cX13_oneComes_k3 (p := 3) rfl (by decide +kernel)
theorem dmX13_oneComes_79 : decode cX13_oneComes 79 = .ok (.if_icmp .ge 7, 3) := dw_at cX13_oneComes_k3 (p := 4) rfl (by decide +kernel)
theorem dmX13_oneComes_82 : decode cX13_oneComes 82 = .ok (.iconst 1, 1) := dw_at cX13_oneComes_k3 (p := 7) rfl (by decide +kernel)
theorem dmX13_oneComes_83 : decode cX13_oneComes 83 = .ok (.goto 4, 3) := dw_at cX13_oneComes_k3 (p := 8) rfl (by decide +kernel)
theorem dmX13_oneComes_86 : decode cX13_oneComes 86 = .ok (.iconst (-1), 1) := dw_at cX13_oneComes_k3 (p := 11) rfl (by decide +kernel)
theorem dmX13_oneComes_87 : decode cX13_oneComes 87 = .ok (.iastore, 1) := dw_at cX13_oneComes_k3 (p := 12) rfl (by decide +kernel)
theorem dmX13_oneComes_88 : decode cX13_oneComes 88 = .ok (.aload_n 0, 1) := dw_at cX13_oneComes_k3 (p := 13) rfl (by decide +kernel)
theorem dmX13_oneComes_89 : decode cX13_oneComes 89 = .ok (.invokevirtual 491, 3) := dw_at cX13_oneComes_k3 (p := 14) rfl (by decide +kernel)
theorem dmX13_oneComes_92 : decode cX13_oneComes 92 = .ok (.iinc 4 1, 3) := dw_at cX13_oneComes_k3 (p := 17) rfl (by decide +kernel)
theorem dmX13_oneComes_95 : decode cX13_oneComes 95 = .ok (.goto (-70), 3) := dw_at cX13_oneComes_k3 (p := 20) rfl (by decide +kernel)
theorem dmX13_oneComes_98 : decode cX13_oneComes 98 = .ok (.iinc 3 1, 3) := dw_at cX13_oneComes_k3 (p := 23) rfl (by decide +kernel)
theorem dmX13_oneComes_101 : decode cX13_oneComes 101 = .ok (.goto (-92), 3) := dw_at cX13_oneComes_k3 (p := 26) rfl (by decide +kernel)
theorem dmX13_oneComes_104 : decode cX13_oneComes 104 = .ok (.return_, 1) := dw_at cX13_oneComes_k3 (p := 29) rfl (by decide +kernel)
def qm_X13_oneComes_0 (K : Nat) (go : Nat → Int32 → Int32 → Int32 → Nat → Int32 → Int32 → ow_MS → Option ow_MS) (x2 : Int32) (x3 : Int32) (x4 : Int32) (r1 : Nat) (t0 : Int32) (t1 : Int32) (z : ow_MS) : Option ow_MS :=
 rdF z (r1 + 1) fun v1 => nzI 2 (go 1 (v1 / 2) 0 0 r1 0 0 z)
def qm_X13_oneComes_1 (K : Nat) (go : Nat → Int32 → Int32 → Int32 → Nat → Int32 → Int32 → ow_MS → Option ow_MS) (x2 : Int32) (x3 : Int32) (x4 : Int32) (r1 : Nat) (t0 : Int32) (t1 : Int32) (z : ow_MS) : Option ow_MS :=
 rdF z (r1 + 1) fun v2 => rdF z (r1 + 2) fun v3 => (if (v2 + v3) ≤ x3 then some z
 else go 2 x2 x3 0 r1 0 0 z)
def qm_X13_oneComes_2 (K : Nat) (go : Nat → Int32 → Int32 → Int32 → Nat → Int32 → Int32 → ow_MS → Option ow_MS) (x2 : Int32) (x3 : Int32) (x4 : Int32) (r1 : Nat) (t0 : Int32) (t1 : Int32) (z : ow_MS) : Option ow_MS :=
 (if 4 ≤ x4 then go 4 x2 x3 x4 r1 0 0 z
 else cs1 (qe_X13_isGap K r1 x3 z) fun v5 z4 => (if v5 = 0 then go 4 x2 x3 x4 r1 0 0 z4
 else cs0 (qe_X13_put K 0 x2 (x4 &&& 1) z4) fun z6 => cs0 (qe_X13_put K 1 x2 (1 - (x4 &&& 1)) z6) fun z7 => cs0 (qe_X13_build K r1 x3 (-1) z7) fun z8 => (if 2 ≤ x4 then go 3 x2 x3 x4 r1 (-1) x2 z8
 else go 3 x2 x3 x4 r1 1 x2 z8)))
def qm_X13_oneComes_3 (K : Nat) (go : Nat → Int32 → Int32 → Int32 → Nat → Int32 → Int32 → ow_MS → Option ow_MS) (x2 : Int32) (x3 : Int32) (x4 : Int32) (r1 : Nat) (t0 : Int32) (t1 : Int32) (z : ow_MS) : Option ow_MS :=
 wrI mX z (3000 + 6) t1 t0 fun z9 => cs0 (qe_X13_offer K z9) fun z10 => go 2 x2 x3 (x4 + 1) r1 0 0 z10
def qm_X13_oneComes_4 (K : Nat) (go : Nat → Int32 → Int32 → Int32 → Nat → Int32 → Int32 → ow_MS → Option ow_MS) (x2 : Int32) (x3 : Int32) (x4 : Int32) (r1 : Nat) (t0 : Int32) (t1 : Int32) (z : ow_MS) : Option ow_MS :=
 go 1 x2 (x3 + 1) 0 r1 0 0 z
def qb_X13_oneComes (K : Nat) (go : Nat → Int32 → Int32 → Int32 → Nat → Int32 → Int32 → ow_MS → Option ow_MS) (L : Nat) (x2 : Int32) (x3 : Int32) (x4 : Int32) (r1 : Nat) (t0 : Int32) (t1 : Int32) (z : ow_MS) : Option ow_MS := match L with
  | 0 => qm_X13_oneComes_0 K go x2 x3 x4 r1 t0 t1 z
  | 1 => qm_X13_oneComes_1 K go x2 x3 x4 r1 t0 t1 z
  | 2 => qm_X13_oneComes_2 K go x2 x3 x4 r1 t0 t1 z
  | 3 => qm_X13_oneComes_3 K go x2 x3 x4 r1 t0 t1 z
  | 4 => qm_X13_oneComes_4 K go x2 x3 x4 r1 t0 t1 z
  | _ => none
def q_X13_oneComes (K : Nat) : Nat → Nat → Int32 → Int32 → Int32 → Nat → Int32 → Int32 → ow_MS → Option ow_MS
  | 0 => fun _ _ _ _ _ _ _ _ => none
  | k + 1 => qb_X13_oneComes K (q_X13_oneComes K k)
def qe_X13_oneComes (K : Nat) (r1 : Nat) (z : ow_MS) : Option ow_MS := q_X13_oneComes K K 0 0 0 0 r1 0 0 z
abbrev wm_X13_oneComes : List Cond := .code yX13_oneComes cX13_oneComes 5 none :: wM
theorem cd_X13_oneComes : yX13_oneComes.cls = RX13 ∧ yX13_oneComes.cls ≠ "java/lang/invoke/MethodHandle" ∧ yX13_oneComes.cls ≠ "java/lang/invoke/VarHandle" ∧ (parseMethodDescriptor yX13_oneComes.desc).map (fun d => d.parameters.length) = some 1 := by decide +kernel
set_option maxHeartbeats 4000000 in
set_option maxRecDepth 100000 in
theorem km_X13_oneComes (l : Launch) (D : va_G) (q : ow_Q5) (u : Nat → Nat) (hU : tw_inj mX u) (K : Nat) (r1 : Nat) (hr1 : mw_net r1) (z z1 : ow_MS) (hq : qe_X13_oneComes K r1 z = some z1) : Met l yX13_oneComes wm_X13_oneComes ({ frames := 5, cells := 0, slots := 0, locals := 131 } : Room) (va_Pc [.ref (u 0), .ref (u r1)] (mw_pre D q u z)) (va_Qv (fun (_ : Unit) => True) (fun _ t => va_P D vwCl (tw mX q u z1) t.heap) (tw_A mX u)) 0 0 (tw_A mX u) := by
  refine Met.ofW (cc := cX13_oneComes) (maxL := 5) (ret := none) (by decide) rfl ?_
  intro p e s m args below meth c s₁ B hml hv
  obtain ⟨rfl, hP, hK, hN⟩ := hv
  have hx := B.exec
  have hb := B.bytes
  have hr := B.returns
  have hts := atoms_spec (ws := wm_X13_oneComes) B.pre
  have hT : ∀ w ∈ wM, w.before ([.ref (u 0), .ref (u r1)] : List Value).toArray s = true := fun w h => hts w (List.mem_cons_of_mem _ h)
  have hown : s.vm.findClass RX13 = some m.cls := findClass_of_methodNamed B.named
  have hlocks := B.notSynchronized
  have hM : tw_M D vwCl mX q s.heap u z s.heap [] := ⟨hP, va_S.rf⟩
  have hl := lv_entry ([.ref (u 0), .ref (u r1)]) (n := 5) (Nat.le_of_ble_eq_true rfl)
  rw [lg_entry_eq]
  generalize (lg_sl ([.ref (u 0), .ref (u r1)]) ++ List.replicate (5 - (lg_sl ([.ref (u 0), .ref (u r1)])).length) Slot.unset).toArray = ls at hl ⊢
  have hl : lv_has ls 5 [(0, .ref (u 0)), (1, .ref (u r1))] := hl
  refine ow_named (fun QQ hQQ => ?_)
  generalize ([.ref (u 0), .ref (u r1)] : List Value).toArray = args at hts hT hQQ ⊢
  have key : ∀ k : Nat, (∀ (x2 : Int32) (x3 : Int32) (x4 : Int32) (r1 : Nat) (t0 : Int32) (t1 : Int32) (z : ow_MS) (H : Heap) (locs : List Loc) (ls : Array Slot), mw_net r1 → tw_M D vwCl mX q s.heap u z H locs → lv_has ls 5 [(0, .ref (u 0)), (1, .ref (u r1))] → q_X13_oneComes K k 0 x2 x3 x4 r1 t0 t1 z = some z1 → W p l e ({ frames := 5, cells := 0, slots := 0, locals := 131 } : Room) s m args below meth c H locs 0 0 QQ (F0 m 0 ls [])) ∧ (∀ (x2 : Int32) (x3 : Int32) (x4 : Int32) (r1 : Nat) (t0 : Int32) (t1 : Int32) (z : ow_MS) (H : Heap) (locs : List Loc) (ls : Array Slot), mw_net r1 → tw_M D vwCl mX q s.heap u z H locs → lv_has ls 5 [(0, .ref (u 0)), (1, .ref (u r1)), (2, .int x2), (3, .int x3)] → q_X13_oneComes K k 1 x2 x3 x4 r1 t0 t1 z = some z1 → W p l e ({ frames := 5, cells := 0, slots := 0, locals := 131 } : Room) s m args below meth c H locs 0 0 QQ (F0 m 9 ls [])) ∧ (∀ (x2 : Int32) (x3 : Int32) (x4 : Int32) (r1 : Nat) (t0 : Int32) (t1 : Int32) (z : ow_MS) (H : Heap) (locs : List Loc) (ls : Array Slot), mw_net r1 → tw_M D vwCl mX q s.heap u z H locs → lv_has ls 5 [(0, .ref (u 0)), (1, .ref (u r1)), (2, .int x2), (3, .int x3), (4, .int x4)] → q_X13_oneComes K k 2 x2 x3 x4 r1 t0 t1 z = some z1 → W p l e ({ frames := 5, cells := 0, slots := 0, locals := 131 } : Room) s m args below meth c H locs 0 0 QQ (F0 m 25 ls [])) ∧ (∀ (x2 : Int32) (x3 : Int32) (x4 : Int32) (r1 : Nat) (t0 : Int32) (t1 : Int32) (z : ow_MS) (H : Heap) (locs : List Loc) (ls : Array Slot), mw_net r1 → tw_M D vwCl mX q s.heap u z H locs → lv_has ls 5 [(0, .ref (u 0)), (1, .ref (u r1)), (2, .int x2), (3, .int x3), (4, .int x4)] → q_X13_oneComes K k 3 x2 x3 x4 r1 t0 t1 z = some z1 → W p l e ({ frames := 5, cells := 0, slots := 0, locals := 131 } : Room) s m args below meth c H locs 0 0 QQ (F0 m 87 ls [.int t0, .int t1, .ref (u (3000 + 6))])) ∧ (∀ (x2 : Int32) (x3 : Int32) (x4 : Int32) (r1 : Nat) (t0 : Int32) (t1 : Int32) (z : ow_MS) (H : Heap) (locs : List Loc) (ls : Array Slot), mw_net r1 → tw_M D vwCl mX q s.heap u z H locs → lv_has ls 5 [(0, .ref (u 0)), (1, .ref (u r1)), (2, .int x2), (3, .int x3), (4, .int x4)] → q_X13_oneComes K k 4 x2 x3 x4 r1 t0 t1 z = some z1 → W p l e ({ frames := 5, cells := 0, slots := 0, locals := 131 } : Room) s m args below meth c H locs 0 0 QQ (F0 m 98 ls [])) := by
    intro k
    induction k with
    | zero => exact ⟨fun _ _ _ _ _ _ _ _ _ _ _ _ _ hq => tw_no hq, fun _ _ _ _ _ _ _ _ _ _ _ _ _ hq => tw_no hq, fun _ _ _ _ _ _ _ _ _ _ _ _ _ hq => tw_no hq, fun _ _ _ _ _ _ _ _ _ _ _ _ _ hq => tw_no hq, fun _ _ _ _ _ _ _ _ _ _ _ _ _ hq => tw_no hq⟩
    | succ k ih =>
      obtain ⟨ih_0, ih_1, ih_2, ih_3, ih_4⟩ := ih
      refine ⟨?_, ?_, ?_, ?_, ?_⟩
      · intro x2 x3 x4 r1 t0 t1 z H locs ls hr1 hM hl hq
        have hq : qm_X13_oneComes_0 K (q_X13_oneComes K k) x2 x3 x4 r1 t0 t1 z = some z1 := hq
        unfold qm_X13_oneComes_0 at hq
        refine lv_aload_n hx hb dmX13_oneComes_0 rfl (lv_at hl 1 rfl) ?_
        refine mg13_44 hx hb hT hown hK hM hN hr1 hq dmX13_oneComes_1 (fun v1 hq => ?_)
        refine lv_iconst (v := 2) hx hb dmX13_oneComes_4 (by decide) ?_
        obtain ⟨hz, hq⟩ := tw_nzI hq
        refine lv_idiv hx hb dmX13_oneComes_5 hz ?_
        refine lv_istore_n (lv' := [(2, .int (v1 / 2)), (0, .ref (u 0)), (1, .ref (u r1))]) hx hb dmX13_oneComes_6 rfl hl (by decide) rfl (fun ls hl => ?_)
        refine lv_iconst (v := 0) hx hb dmX13_oneComes_7 (by decide) ?_
        refine lv_istore_n (lv' := [(3, .int 0), (2, .int (v1 / 2)), (0, .ref (u 0)), (1, .ref (u r1))]) hx hb dmX13_oneComes_8 rfl hl (by decide) rfl (fun ls hl => ?_)
        exact ih_1 (v1 / 2) 0 0 r1 0 0 z H locs ls hr1 hM (lv_sub hl [2, 3, 1, 0] rfl) hq
      · intro x2 x3 x4 r1 t0 t1 z H locs ls hr1 hM hl hq
        have hq : qm_X13_oneComes_1 K (q_X13_oneComes K k) x2 x3 x4 r1 t0 t1 z = some z1 := hq
        unfold qm_X13_oneComes_1 at hq
        refine lv_iload_n hx hb dmX13_oneComes_9 rfl (lv_at hl 3 rfl) ?_
        refine lv_aload_n hx hb dmX13_oneComes_10 rfl (lv_at hl 1 rfl) ?_
        refine mg13_44 hx hb hT hown hK hM hN hr1 hq dmX13_oneComes_11 (fun v2 hq => ?_)
        refine lv_aload_n hx hb dmX13_oneComes_14 rfl (lv_at hl 1 rfl) ?_
        refine mg13_407 hx hb hT hown hK hM hN hr1 hq dmX13_oneComes_15 (fun v3 hq => ?_)
        refine lv_iadd hx hb dmX13_oneComes_18 ?_
        refine lv_icmp_ge (tgt := 104) hx hb dmX13_oneComes_19 (by decide) (fun hc => ?_) (fun hc => ?_)
        · have hq := tw_it hq hc
          exact mw_vret hx hb hr hlocks hM hq hQQ dmX13_oneComes_104
        · have hq := tw_if hq hc
          refine lv_iconst (v := 0) hx hb dmX13_oneComes_22 (by decide) ?_
          refine lv_istore (lv' := [(4, .int 0), (0, .ref (u 0)), (1, .ref (u r1)), (2, .int x2), (3, .int x3)]) hx hb dmX13_oneComes_23 hl (by decide) rfl (fun ls hl => ?_)
          exact ih_2 x2 x3 0 r1 0 0 z H locs ls hr1 hM (lv_sub hl [1, 2, 3, 4, 0] rfl) hq
      · intro x2 x3 x4 r1 t0 t1 z H locs ls hr1 hM hl hq
        have hq : qm_X13_oneComes_2 K (q_X13_oneComes K k) x2 x3 x4 r1 t0 t1 z = some z1 := hq
        unfold qm_X13_oneComes_2 at hq
        refine lv_iload hx hb dmX13_oneComes_25 (lv_at hl 4 rfl) ?_
        refine lv_iconst (v := 4) hx hb dmX13_oneComes_27 (by decide) ?_
        refine lv_icmp_ge (tgt := 98) hx hb dmX13_oneComes_28 (by decide) (fun hc => ?_) (fun hc => ?_)
        · have hq := tw_it hq hc
          exact ih_4 x2 x3 x4 r1 0 0 z H locs ls hr1 hM (lv_sub hl [0, 1, 2, 3, 4] rfl) hq
        · have hq := tw_if hq hc
          refine lv_aload_n hx hb dmX13_oneComes_31 rfl (lv_at hl 1 rfl) ?_
          refine lv_iload_n hx hb dmX13_oneComes_32 rfl (lv_at hl 3 rfl) ?_
          obtain ⟨v5, z4, hcq, hq⟩ := tw_cl1 hq
          refine tw_cali hM (va_runS (As := [.ref (u r1), .int x3]) (rest := []) ⟨hx, hb, hml, hown, hts⟩ (km_X13_isGap l D q u hU K r1 x3 hr1 z z4 v5 hcq) (va_cwS 2 hts (tw_gS wM_good wq_205 wq_206 wq_61 wq_204) rfl rfl rfl cd_X13_isGap ⟨(Nat.le_of_ble_eq_true rfl), (Nat.le_of_ble_eq_true rfl)⟩) (mw_preS hK hN hM) rfl rfl hl.1 rfl (lv_room (Nat.le_of_ble_eq_true rfl)) dmX13_oneComes_33 ⟨(Nat.le_of_ble_eq_true rfl), (Nat.le_of_ble_eq_true rfl)⟩) (fun H locs hM => ?_)
          refine lv_if_eq (tgt := 98) hx hb dmX13_oneComes_36 (by decide) (fun hc => ?_) (fun hc => ?_)
          · have hq := tw_it hq hc
            exact ih_4 x2 x3 x4 r1 0 0 z4 H locs ls hr1 hM (lv_sub hl [0, 1, 2, 3, 4] rfl) hq
          · have hq := tw_if hq hc
            refine lv_aload_n hx hb dmX13_oneComes_39 rfl (lv_at hl 0 rfl) ?_
            refine lv_iconst (v := 0) hx hb dmX13_oneComes_40 (by decide) ?_
            refine lv_iload_n hx hb dmX13_oneComes_41 rfl (lv_at hl 2 rfl) ?_
            refine lv_iload hx hb dmX13_oneComes_42 (lv_at hl 4 rfl) ?_
            refine lv_iconst (v := 1) hx hb dmX13_oneComes_44 (by decide) ?_
            refine lv_iand hx hb dmX13_oneComes_45 ?_
            obtain ⟨z6, hcq, hq⟩ := tw_cl0 hq
            refine tw_calv hM (va_runV (As := [.int 0, .int x2, .int (x4 &&& 1)]) (rest := []) ⟨hx, hb, hml, hown, hts⟩ (km_X13_put l D q u hU K 0 x2 (x4 &&& 1) z4 z6 hcq) (cwV 3 hts (tw_gV wM_good wq_207 wq_208 wq_209 wq_61 wq_198) rfl rfl rfl cd_X13_put ⟨(Nat.le_of_ble_eq_true rfl), (Nat.le_of_ble_eq_true rfl)⟩) (mw_preV hK hN hM mo_0 rfl) rfl rfl hl.1 rfl (lv_room (Nat.le_of_ble_eq_true rfl)) dmX13_oneComes_46 ⟨(Nat.le_of_ble_eq_true rfl), (Nat.le_of_ble_eq_true rfl)⟩) (fun H locs hM => ?_)
            refine lv_aload_n hx hb dmX13_oneComes_49 rfl (lv_at hl 0 rfl) ?_
            refine lv_iconst (v := 1) hx hb dmX13_oneComes_50 (by decide) ?_
            refine lv_iload_n hx hb dmX13_oneComes_51 rfl (lv_at hl 2 rfl) ?_
            refine lv_iconst (v := 1) hx hb dmX13_oneComes_52 (by decide) ?_
            refine lv_iload hx hb dmX13_oneComes_53 (lv_at hl 4 rfl) ?_
            refine lv_iconst (v := 1) hx hb dmX13_oneComes_55 (by decide) ?_
            refine lv_iand hx hb dmX13_oneComes_56 ?_
            refine lv_isub hx hb dmX13_oneComes_57 ?_
            obtain ⟨z7, hcq, hq⟩ := tw_cl0 hq
            refine tw_calv hM (va_runV (As := [.int 1, .int x2, .int (1 - (x4 &&& 1))]) (rest := []) ⟨hx, hb, hml, hown, hts⟩ (km_X13_put l D q u hU K 1 x2 (1 - (x4 &&& 1)) z6 z7 hcq) (cwV 3 hts (tw_gV wM_good wq_207 wq_208 wq_209 wq_61 wq_198) rfl rfl rfl cd_X13_put ⟨(Nat.le_of_ble_eq_true rfl), (Nat.le_of_ble_eq_true rfl)⟩) (mw_preV hK hN hM mo_0 rfl) rfl rfl hl.1 rfl (lv_room (Nat.le_of_ble_eq_true rfl)) dmX13_oneComes_58 ⟨(Nat.le_of_ble_eq_true rfl), (Nat.le_of_ble_eq_true rfl)⟩) (fun H locs hM => ?_)
            refine lv_aload_n hx hb dmX13_oneComes_61 rfl (lv_at hl 0 rfl) ?_
            refine lv_aload_n hx hb dmX13_oneComes_62 rfl (lv_at hl 1 rfl) ?_
            refine lv_iload_n hx hb dmX13_oneComes_63 rfl (lv_at hl 3 rfl) ?_
            refine lv_iconst (v := (-1)) hx hb dmX13_oneComes_64 (by decide) ?_
            obtain ⟨z8, hcq, hq⟩ := tw_cl0 hq
            refine tw_calv hM (va_runV (As := [.ref (u r1), .int x3, .int (-1)]) (rest := []) ⟨hx, hb, hml, hown, hts⟩ (km_X13_build l D q u hU K r1 x3 (-1) hr1 z7 z8 hcq) (cwV 3 hts (tw_gV wM_good wq_210 wq_211 wq_212 wq_61 wq_203) rfl rfl rfl cd_X13_build ⟨(Nat.le_of_ble_eq_true rfl), (Nat.le_of_ble_eq_true rfl)⟩) (mw_preV hK hN hM mo_0 rfl) rfl rfl hl.1 rfl (lv_room (Nat.le_of_ble_eq_true rfl)) dmX13_oneComes_65 ⟨(Nat.le_of_ble_eq_true rfl), (Nat.le_of_ble_eq_true rfl)⟩) (fun H locs hM => ?_)
            refine lv_aload_n hx hb dmX13_oneComes_68 rfl (lv_at hl 0 rfl) ?_
            refine mg13_121 hx hb hT hown hK hM dmX13_oneComes_69 ?_
            refine mg13_35 hx hb hT hown hK hM hN mw_n3 dmX13_oneComes_72 ?_
            refine lv_iload_n hx hb dmX13_oneComes_75 rfl (lv_at hl 2 rfl) ?_
            refine lv_iload hx hb dmX13_oneComes_76 (lv_at hl 4 rfl) ?_
            refine lv_iconst (v := 2) hx hb dmX13_oneComes_78 (by decide) ?_
            refine lv_icmp_ge (tgt := 86) hx hb dmX13_oneComes_79 (by decide) (fun hc => ?_) (fun hc => ?_)
            · have hq := tw_it hq hc
              refine lv_iconst (v := (-1)) hx hb dmX13_oneComes_86 (by decide) ?_
              exact ih_3 x2 x3 x4 r1 (-1) x2 z8 H locs ls hr1 hM (lv_sub hl [0, 1, 2, 3, 4] rfl) hq
            · have hq := tw_if hq hc
              refine lv_iconst (v := 1) hx hb dmX13_oneComes_82 (by decide) ?_
              refine lv_goto (tgt := 87) hx hb dmX13_oneComes_83 (by decide) ?_
              exact ih_3 x2 x3 x4 r1 1 x2 z8 H locs ls hr1 hM (lv_sub hl [0, 1, 2, 3, 4] rfl) hq
      · intro x2 x3 x4 r1 t0 t1 z H locs ls hr1 hM hl hq
        have hq : qm_X13_oneComes_3 K (q_X13_oneComes K k) x2 x3 x4 r1 t0 t1 z = some z1 := hq
        unfold qm_X13_oneComes_3 at hq
        refine tw_iast mX_ok hU hx hb hK hM (mrn_6 mw_n3) hq dmX13_oneComes_87 (fun z9 H locs hM hq => ?_)
        refine lv_aload_n hx hb dmX13_oneComes_88 rfl (lv_at hl 0 rfl) ?_
        obtain ⟨z10, hcq, hq⟩ := tw_cl0 hq
        refine tw_calv hM (va_runV (As := []) (rest := []) ⟨hx, hb, hml, hown, hts⟩ (km_X13_offer l D q u hU K z9 z10 hcq) (cwV 0 hts (tw_gV wM_good wq_192 wq_193 wq_194 wq_61 wq_191) rfl rfl rfl cd_X13_offer ⟨(Nat.le_of_ble_eq_true rfl), (Nat.le_of_ble_eq_true rfl)⟩) (mw_preV hK hN hM mo_0 rfl) rfl rfl hl.1 rfl (lv_room (Nat.le_of_ble_eq_true rfl)) dmX13_oneComes_89 ⟨(Nat.le_of_ble_eq_true rfl), (Nat.le_of_ble_eq_true rfl)⟩) (fun H locs hM => ?_)
        refine lv_iinc (v := (x4 + 1)) (lv' := [(4, .int (x4 + 1)), (0, .ref (u 0)), (1, .ref (u r1)), (2, .int x2), (3, .int x3)]) hx hb dmX13_oneComes_92 hl (k := 4) rfl rfl (by decide) rfl (fun ls hl => ?_)
        refine lv_goto (tgt := 25) hx hb dmX13_oneComes_95 (by decide) ?_
        exact ih_2 x2 x3 (x4 + 1) r1 0 0 z10 H locs ls hr1 hM (lv_sub hl [1, 2, 3, 4, 0] rfl) hq
      · intro x2 x3 x4 r1 t0 t1 z H locs ls hr1 hM hl hq
        have hq : qm_X13_oneComes_4 K (q_X13_oneComes K k) x2 x3 x4 r1 t0 t1 z = some z1 := hq
        unfold qm_X13_oneComes_4 at hq
        refine lv_iinc (v := (x3 + 1)) (lv' := [(3, .int (x3 + 1)), (0, .ref (u 0)), (1, .ref (u r1)), (2, .int x2), (4, .int x4)]) hx hb dmX13_oneComes_98 hl (k := 3) rfl rfl (by decide) rfl (fun ls hl => ?_)
        refine lv_goto (tgt := 9) hx hb dmX13_oneComes_101 (by decide) ?_
        exact ih_1 x2 (x3 + 1) 0 r1 0 0 z H locs ls hr1 hM (lv_sub hl [1, 2, 3, 0] rfl) hq
  exact (key K).1 0 0 0 r1 0 0 z s.heap [] ls hr1 hM (lv_sub hl [0, 1] rfl) hq
theorem dmX13_twoAt_0 : decode cX13_twoAt 0 = .ok (.aload_n 1, 1) := dw_at cX13_twoAt_k0 (p := 0) rfl (by decide +kernel)
theorem dmX13_twoAt_1 : decode cX13_twoAt 1 = .ok (.getfield 44, 3) := dw_at cX13_twoAt_k0 (p := 1) rfl (by decide +kernel)
theorem dmX13_twoAt_4 : decode cX13_twoAt 4 = .ok (.iconst 2, 1) := dw_at cX13_twoAt_k0 (p := 4) rfl (by decide +kernel)
theorem dmX13_twoAt_5 : decode cX13_twoAt 5 = .ok (.idiv, 1) := dw_at cX13_twoAt_k0 (p := 5) rfl (by decide +kernel)
theorem dmX13_twoAt_6 : decode cX13_twoAt 6 = .ok (.istore 5, 2) := dw_at cX13_twoAt_k0 (p := 6) rfl (by decide +kernel)
theorem dmX13_twoAt_8 : decode cX13_twoAt 8 = .ok (.iload 5, 2) := dw_at cX13_twoAt_k0 (p := 8) rfl (by decide +kernel)
theorem dmX13_twoAt_10 : decode cX13_twoAt 10 = .ok (.iload 4, 2) := dw_at cX13_twoAt_k0 (p := 10) rfl (by decide +kernel)
theorem dmX13_twoAt_12 : decode cX13_twoAt 12 = .ok (.iconst 1, 1) := dw_at cX13_twoAt_k0 (p := 12) rfl (by decide +kernel)
theorem dmX13_twoAt_13 : decode cX13_twoAt 13 = .ok (.iand, 1) := dw_at cX13_twoAt_k0 (p := 13) rfl (by decide +kernel)
theorem dmX13_twoAt_14 : decode cX13_twoAt 14 = .ok (.iadd, 1) := dw_at cX13_twoAt_k0 (p := 14) rfl (by decide +kernel)
theorem dmX13_twoAt_15 : decode cX13_twoAt 15 = .ok (.istore 6, 2) := dw_at cX13_twoAt_k0 (p := 15) rfl (by decide +kernel)
theorem dmX13_twoAt_17 : decode cX13_twoAt 17 = .ok (.iconst 2, 1) := dw_at cX13_twoAt_k0 (p := 17) rfl (by decide +kernel)
theorem dmX13_twoAt_18 : decode cX13_twoAt 18 = .ok (.iload 5, 2) := dw_at cX13_twoAt_k0 (p := 18) rfl (by decide +kernel)
theorem dmX13_twoAt_20 : decode cX13_twoAt 20 = .ok (.imul, 1) := dw_at cX13_twoAt_k0 (p := 20) rfl (by decide +kernel)
theorem dmX13_twoAt_21 : decode cX13_twoAt 21 = .ok (.iconst 1, 1) := dw_at cX13_twoAt_k0 (p := 21) rfl (by decide +kernel)
theorem dmX13_twoAt_22 : decode cX13_twoAt 22 = .ok (.iadd, 1) := dw_at cX13_twoAt_k0 (p := 22) rfl (by decide +kernel)
theorem dmX13_twoAt_23 : decode cX13_twoAt 23 = .ok (.iload 6, 2) := dw_at cX13_twoAt_k0 (p := 23) rfl (by decide +kernel)
theorem dmX13_twoAt_25 : decode cX13_twoAt 25 = .ok (.isub, 1) := dw_at cX13_twoAt_k1 (p := 0) rfl (by decide +kernel)
theorem dmX13_twoAt_26 : decode cX13_twoAt 26 = .ok (.istore 7, 2) := dw_at cX13_twoAt_k1 (p := 1) rfl (by decide +kernel)
theorem dmX13_twoAt_28 : decode cX13_twoAt 28 = .ok (.iload 5, 2) := dw_at cX13_twoAt_k1 (p := 3) rfl (by decide +kernel)
theorem dmX13_twoAt_30 : decode cX13_twoAt 30 = .ok (.iload 4, 2) := dw_at cX13_twoAt_k1 (p := 5) rfl (by decide +kernel)
theorem dmX13_twoAt_32 : decode cX13_twoAt 32 = .ok (.iconst 1, 1) := dw_at cX13_twoAt_k1 (p := 7) rfl (by decide +kernel)
theorem dmX13_twoAt_33 : decode cX13_twoAt 33 = .ok (.ishr, 1) := dw_at cX13_twoAt_k1 (p := 8) rfl (by decide +kernel)
theorem dmX13_twoAt_34 : decode cX13_twoAt 34 = .ok (.iconst 1, 1) := dw_at cX13_twoAt_k1 (p := 9) rfl (by decide +kernel)
theorem dmX13_twoAt_35 : decode cX13_twoAt 35 = .ok (.iand, 1) := dw_at cX13_twoAt_k1 (p := 10) rfl (by decide +kernel)
theorem dmX13_twoAt_36 : decode cX13_twoAt 36 = .ok (.iadd, 1) := dw_at cX13_twoAt_k1 (p := 11) rfl (by decide +kernel)
theorem dmX13_twoAt_37 : decode cX13_twoAt 37 = .ok (.istore 8, 2) := dw_at cX13_twoAt_k1 (p := 12) rfl (by decide +kernel)
theorem dmX13_twoAt_39 : decode cX13_twoAt 39 = .ok (.iconst 2, 1) := dw_at cX13_twoAt_k1 (p := 14) rfl (by decide +kernel)
theorem dmX13_twoAt_40 : decode cX13_twoAt 40 = .ok (.iload 5, 2) := dw_at cX13_twoAt_k1 (p := 15) rfl (by decide +kernel)
theorem dmX13_twoAt_42 : decode cX13_twoAt 42 = .ok (.imul, 1) := dw_at cX13_twoAt_k1 (p := 17) rfl (by decide +kernel)
theorem dmX13_twoAt_43 : decode cX13_twoAt 43 = .ok (.iconst 1, 1) := dw_at cX13_twoAt_k1 (p := 18) rfl (by decide +kernel)
theorem dmX13_twoAt_44 : decode cX13_twoAt 44 = .ok (.iadd, 1) := dw_at cX13_twoAt_k1 (p := 19) rfl (by decide +kernel)
theorem dmX13_twoAt_45 : decode cX13_twoAt 45 = .ok (.iload 8, 2) := dw_at cX13_twoAt_k1 (p := 20) rfl (by decide +kernel)
theorem dmX13_twoAt_47 : decode cX13_twoAt 47 = .ok (.isub, 1) := dw_at cX13_twoAt_k1 (p := 22) rfl (by decide +kernel)
theorem dmX13_twoAt_48 : decode cX13_twoAt 48 = .ok (.istore 9, 2) := dw_at cX13_twoAt_k1 (p := 23) rfl (by decide +kernel)
theorem dmX13_twoAt_50 : decode cX13_twoAt 50 = .ok (.iload 4, 2) := dw_at cX13_twoAt_k2 (p := 0) rfl (by decide +kernel)
theorem dmX13_twoAt_52 : decode cX13_twoAt 52 = .ok (.iconst 2, 1) := dw_at cX13_twoAt_k2 (p := 2) rfl (by decide +kernel)
theorem dmX13_twoAt_53 : decode cX13_twoAt 53 = .ok (.ishr, 1) := dw_at cX13_twoAt_k2 (p := 3) rfl (by decide +kernel)
theorem dmX13_twoAt_54 : decode cX13_twoAt 54 = .ok (.istore 10, 2) := dw_at cX13_twoAt_k2 (p := 4) rfl (by decide +kernel)
theorem dmX13_twoAt_56 : decode cX13_twoAt 56 = .ok (.aload_n 0, 1) := dw_at cX13_twoAt_k2 (p := 6) rfl (by decide +kernel)
theorem dmX13_twoAt_57 : decode cX13_twoAt 57 = .ok (.iconst 0, 1) := dw_at cX13_twoAt_k2 (p := 7) rfl (by decide +kernel)
theorem dmX13_twoAt_58 : decode cX13_twoAt 58 = .ok (.iload 10, 2) := dw_at cX13_twoAt_k2 (p := 8) rfl (by decide +kernel)
theorem dmX13_twoAt_60 : decode cX13_twoAt 60 = .ok (.ifCond .ne 8, 3) := dw_at cX13_twoAt_k2 (p := 10) rfl (by decide +kernel)
theorem dmX13_twoAt_63 : decode cX13_twoAt 63 = .ok (.iload 6, 2) := dw_at cX13_twoAt_k2 (p := 13) rfl (by decide +kernel)
theorem dmX13_twoAt_65 : decode cX13_twoAt 65 = .ok (.goto 5, 3) := dw_at cX13_twoAt_k2 (p := 15) rfl (by decide +kernel)
theorem dmX13_twoAt_68 : decode cX13_twoAt 68 = .ok (.iload 8, 2) := dw_at cX13_twoAt_k2 (p := 18) rfl (by decide +kernel)
theorem dmX13_twoAt_70 : decode cX13_twoAt 70 = .ok (.iload 10, 2) := dw_at cX13_twoAt_k2 (p := 20) rfl (by decide +kernel)
theorem dmX13_twoAt_72 : decode cX13_twoAt 72 = .ok (.invokevirtual 502, 3) := dw_at cX13_twoAt_k2 (p := 22) rfl (by decide +kernel)
theorem dmX13_twoAt_75 : decode cX13_twoAt 75 = .ok (.aload_n 0, 1) := dw_at cX13_twoAt_k3 (p := 0) rfl (by decide +kernel)
theorem dmX13_twoAt_76 : decode cX13_twoAt 76 = .ok (.iconst 1, 1) := dw_at cX13_twoAt_k3 (p := 1) rfl (by decide +kernel)
theorem dmX13_twoAt_77 : decode cX13_twoAt 77 = .ok (.iload 10, 2) := dw_at cX13_twoAt_k3 (p := 2) rfl (by decide +kernel)
theorem dmX13_twoAt_79 : decode cX13_twoAt 79 = .ok (.ifCond .ne 8, 3) := dw_at cX13_twoAt_k3 (p := 4) rfl (by decide +kernel)
theorem dmX13_twoAt_82 : decode cX13_twoAt 82 = .ok (.iload 7, 2) := dw_at cX13_twoAt_k3 (p := 7) rfl (by decide +kernel)
theorem dmX13_twoAt_84 : decode cX13_twoAt 84 = .ok (.goto 5, 3) := dw_at cX13_twoAt_k3 (p := 9) rfl (by decide +kernel)
theorem dmX13_twoAt_87 : decode cX13_twoAt 87 = .ok (.iload 9, 2) := dw_at cX13_twoAt_k3 (p := 12) rfl (by decide +kernel)
theorem dmX13_twoAt_89 : decode cX13_twoAt 89 = .ok (.iload 10, 2) := dw_at cX13_twoAt_k3 (p := 14) rfl (by decide +kernel)
theorem dmX13_twoAt_91 : decode cX13_twoAt 91 = .ok (.invokevirtual 502, 3) := dw_at cX13_twoAt_k3 (p := 16) rfl (by decide +kernel)
theorem dmX13_twoAt_94 : decode cX13_twoAt 94 = .ok (.aload_n 0, 1) := dw_at cX13_twoAt_k3 (p := 19) rfl (by decide +kernel)
theorem dmX13_twoAt_95 : decode cX13_twoAt 95 = .ok (.iconst 2, 1) := dw_at cX13_twoAt_k3 (p := 20) rfl (by decide +kernel)
theorem dmX13_twoAt_96 : decode cX13_twoAt 96 = .ok (.iload 10, 2) := dw_at cX13_twoAt_k3 (p := 21) rfl (by decide +kernel)
theorem dmX13_twoAt_98 : decode cX13_twoAt 98 = .ok (.ifCond .ne 8, 3) := dw_at cX13_twoAt_k3 (p := 23) rfl (by decide +kernel)
theorem dmX13_twoAt_101 : decode cX13_twoAt 101 = .ok (.iload 8, 2) := dw_at cX13_twoAt_k4 (p := 0) rfl (by decide +kernel)
theorem dmX13_twoAt_103 : decode cX13_twoAt 103 = .ok (.goto 5, 3) := dw_at cX13_twoAt_k4 (p := 2) rfl (by decide +kernel)
theorem dmX13_twoAt_106 : decode cX13_twoAt 106 = .ok (.iload 6, 2) := dw_at cX13_twoAt_k4 (p := 5) rfl (by decide +kernel)
theorem dmX13_twoAt_108 : decode cX13_twoAt 108 = .ok (.iconst 1, 1) := dw_at cX13_twoAt_k4 (p := 7) rfl (by decide +kernel)
theorem dmX13_twoAt_109 : decode cX13_twoAt 109 = .ok (.iload 10, 2) := dw_at cX13_twoAt_k4 (p := 8) rfl (by decide +kernel)
theorem dmX13_twoAt_111 : decode cX13_twoAt 111 = .ok (.isub, 1) := dw_at cX13_twoAt_k4 (p := 10) rfl (by decide +kernel)
theorem dmX13_twoAt_112 : decode cX13_twoAt 112 = .ok (.invokevirtual 502, 3) := dw_at cX13_twoAt_k4 (p := 11) rfl (by decide +kernel)
theorem dmX13_twoAt_115 : decode cX13_twoAt 115 = .ok (.aload_n 0, 1) := dw_at cX13_twoAt_k4 (p := 14) rfl (by decide +kernel)
theorem dmX13_twoAt_116 : decode cX13_twoAt 116 = .ok (.iconst 3, 1) := dw_at cX13_twoAt_k4 (p := 15) rfl (by decide +kernel)
theorem dmX13_twoAt_117 : decode cX13_twoAt 117 = .ok (.iload 10, 2) := dw_at cX13_twoAt_k4 (p := 16) rfl (by decide +kernel)
theorem dmX13_twoAt_119 : decode cX13_twoAt 119 = .ok (.ifCond .ne 8, 3) := dw_at cX13_twoAt_k4 (p := 18) rfl (by decide +kernel)
theorem dmX13_twoAt_122 : decode cX13_twoAt 122 = .ok (.iload 9, 2) := dw_at cX13_twoAt_k4 (p := 21) rfl (by decide +kernel)
theorem dmX13_twoAt_124 : decode cX13_twoAt 124 = .ok (.goto 5, 3) := dw_at cX13_twoAt_k4 (p := 23) rfl (by decide +kernel)
theorem dmX13_twoAt_127 : decode cX13_twoAt 127 = .ok (.iload 7, 2) := dw_at cX13_twoAt_k5 (p := 0) rfl (by decide +kernel)
theorem dmX13_twoAt_129 : decode cX13_twoAt 129 = .ok (.iconst 1, 1) := dw_at cX13_twoAt_k5 (p := 2) rfl (by decide +kernel)
theorem dmX13_twoAt_130 : decode cX13_twoAt 130 = .ok (.iload 10, 2) := dw_at cX13_twoAt_k5 (p := 3) rfl (by decide +kernel)
theorem dmX13_twoAt_132 : decode cX13_twoAt 132 = .ok (.isub, 1) := dw_at cX13_twoAt_k5 (p := 5) rfl (by decide +kernel)
theorem dmX13_twoAt_133 : decode cX13_twoAt 133 = .ok (.invokevirtual 502, 3) := dw_at cX13_twoAt_k5 (p := 6) rfl (by decide +kernel)
theorem dmX13_twoAt_136 : decode cX13_twoAt 136 = .ok (.aload_n 0, 1) := dw_at cX13_twoAt_k5 (p := 9) rfl (by decide +kernel)
theorem dmX13_twoAt_137 : decode cX13_twoAt 137 = .ok (.aload_n 1, 1) := dw_at cX13_twoAt_k5 (p := 10) rfl (by decide +kernel)
theorem dmX13_twoAt_138 : decode cX13_twoAt 138 = .ok (.iload_n 2, 1) := dw_at cX13_twoAt_k5 (p := 11) rfl (by decide +kernel)
theorem dmX13_twoAt_139 : decode cX13_twoAt 139 = .ok (.iload_n 3, 1) := dw_at cX13_twoAt_k5 (p := 12) rfl (by decide +kernel)
theorem dmX13_twoAt_140 : decode cX13_twoAt 140 = .ok (.invokevirtual 505, 3) := dw_at cX13_twoAt_k5 (p := 13) rfl (by decide +kernel)
theorem dmX13_twoAt_143 : decode cX13_twoAt 143 = .ok (.aload_n 0, 1) := dw_at cX13_twoAt_k5 (p := 16) rfl (by decide +kernel)
theorem dmX13_twoAt_144 : decode cX13_twoAt 144 = .ok (.getfield 121, 3) := dw_at cX13_twoAt_k5 (p := 17) rfl (by decide +kernel)
theorem dmX13_twoAt_147 : decode cX13_twoAt 147 = .ok (.getfield 35, 3) := dw_at cX13_twoAt_k5 (p := 20) rfl (by decide +kernel)
theorem dmX13_twoAt_150 : decode cX13_twoAt 150 = .ok (.iload 5, 2) := dw_at cX13_twoAt_k5 (p := 23) rfl (by decide +kernel)
theorem dmX13_twoAt_152 : decode cX13_twoAt 152 = .ok (.iconst 1, 1) := dw_at cX13_twoAt_k6 (p := 0) rfl (by decide +kernel)
theorem dmX13_twoAt_153 : decode cX13_twoAt 153 = .ok (.iastore, 1) := dw_at cX13_twoAt_k6 (p := 1) rfl (by decide +kernel)
theorem dmX13_twoAt_154 : decode cX13_twoAt 154 = .ok (.aload_n 0, 1) := dw_at cX13_twoAt_k6 (p := 2) rfl (by decide +kernel)
theorem dmX13_twoAt_155 : decode cX13_twoAt 155 = .ok (.getfield 121, 3) := dw_at cX13_twoAt_k6 (p := 3) rfl (by decide +kernel)
theorem dmX13_twoAt_158 : decode cX13_twoAt 158 = .ok (.getfield 35, 3) := dw_at cX13_twoAt_k6 (p := 6) rfl (by decide +kernel)
theorem dmX13_twoAt_161 : decode cX13_twoAt 161 = .ok (.iload 5, 2) := dw_at cX13_twoAt_k6 (p := 9) rfl (by decide +kernel)
theorem dmX13_twoAt_163 : decode cX13_twoAt 163 = .ok (.iconst 1, 1) := dw_at cX13_twoAt_k6 (p := 11) rfl (by decide +kernel)
theorem dmX13_twoAt_164 : decode cX13_twoAt 164 = .ok (.iadd, 1) := dw_at cX13_twoAt_k6 (p := 12) rfl (by decide +kernel)
theorem dmX13_twoAt_165 : decode cX13_twoAt 165 = .ok (.iconst (-1), 1) := dw_at cX13_twoAt_k6 (p := 13) rfl (by decide +kernel)
theorem dmX13_twoAt_166 : decode cX13_twoAt 166 = .ok (.iastore, 1) := dw_at cX13_twoAt_k6 (p := 14) rfl (by decide +kernel)
theorem dmX13_twoAt_167 : decode cX13_twoAt 167 = .ok (.aload_n 0, 1) := dw_at cX13_twoAt_k6 (p := 15) rfl (by decide +kernel)
theorem dmX13_twoAt_168 : decode cX13_twoAt 168 = .ok (.getfield 121, 3) := dw_at cX13_twoAt_k6 (p := 16) rfl (by decide +kernel)
theorem dmX13_twoAt_171 : decode cX13_twoAt 171 = .ok (.invokevirtual 71, 3) := dw_at cX13_twoAt_k6 (p := 19) rfl (by decide +kernel)
theorem dmX13_twoAt_174 : decode cX13_twoAt 174 = .ok (.aload_n 0, 1) := dw_at cX13_twoAt_k6 (p := 22) rfl (by decide +kernel)
theorem dmX13_twoAt_175 : decode cX13_twoAt 175 = .ok (.getfield 121, 3) := dw_at cX13_twoAt_k6 (p := 23) rfl (by decide +kernel)
theorem dmX13_twoAt_178 : decode cX13_twoAt 178 = .ok (.invokevirtual 413, 3) := dw_at cX13_twoAt_k7 (p := 0) rfl (by decide +kernel)
theorem dmX13_twoAt_181 : decode cX13_twoAt 181 = .ok (.ifCond .eq 7, 3) := dw_at cX13_twoAt_k7 (p := 3) rfl (by decide +kernel)
theorem dmX13_twoAt_184 : decode cX13_twoAt 184 = .ok (.aload_n 0, 1) := dw_at cX13_twoAt_k7 (p := 6) rfl (by decide +kernel)
theorem dmX13_twoAt_185 : decode cX13_twoAt 185 = .ok (.invokevirtual 491, 3) := dw_at cX13_twoAt_k7 (p := 7) rfl (by decide +kernel)
theorem dmX13_twoAt_188 : decode cX13_twoAt 188 = .ok (.return_, 1) := dw_at cX13_twoAt_k7 (p := 10) rfl (by decide +kernel)
def qm_X13_twoAt_0 (K : Nat) (go : Nat → Int32 → Int32 → Int32 → Int32 → Int32 → Int32 → Int32 → Int32 → Int32 → Nat → Int32 → Int32 → ow_MS → Option ow_MS) (x2 : Int32) (x3 : Int32) (x4 : Int32) (x5 : Int32) (x6 : Int32) (x7 : Int32) (x8 : Int32) (x9 : Int32) (x10 : Int32) (r1 : Nat) (t0 : Int32) (t1 : Int32) (z : ow_MS) : Option ow_MS :=
 rdF z (r1 + 1) fun v1 => nzI 2 ((if ((x4 : Int32) >>> ((2 : Int32) &&& 31)) = 0 then go 1 x2 x3 x4 (v1 / 2) ((v1 / 2) + (x4 &&& 1)) (((2 * (v1 / 2)) + 1) - ((v1 / 2) + (x4 &&& 1))) ((v1 / 2) + (((x4 : Int32) >>> ((1 : Int32) &&& 31)) &&& 1)) (((2 * (v1 / 2)) + 1) - ((v1 / 2) + (((x4 : Int32) >>> ((1 : Int32) &&& 31)) &&& 1))) ((x4 : Int32) >>> ((2 : Int32) &&& 31)) r1 ((v1 / 2) + (x4 &&& 1)) 0 z
 else go 1 x2 x3 x4 (v1 / 2) ((v1 / 2) + (x4 &&& 1)) (((2 * (v1 / 2)) + 1) - ((v1 / 2) + (x4 &&& 1))) ((v1 / 2) + (((x4 : Int32) >>> ((1 : Int32) &&& 31)) &&& 1)) (((2 * (v1 / 2)) + 1) - ((v1 / 2) + (((x4 : Int32) >>> ((1 : Int32) &&& 31)) &&& 1))) ((x4 : Int32) >>> ((2 : Int32) &&& 31)) r1 ((v1 / 2) + (((x4 : Int32) >>> ((1 : Int32) &&& 31)) &&& 1)) 0 z))
def qm_X13_twoAt_1 (K : Nat) (go : Nat → Int32 → Int32 → Int32 → Int32 → Int32 → Int32 → Int32 → Int32 → Int32 → Nat → Int32 → Int32 → ow_MS → Option ow_MS) (x2 : Int32) (x3 : Int32) (x4 : Int32) (x5 : Int32) (x6 : Int32) (x7 : Int32) (x8 : Int32) (x9 : Int32) (x10 : Int32) (r1 : Nat) (t0 : Int32) (t1 : Int32) (z : ow_MS) : Option ow_MS :=
 cs0 (qe_X13_put K t1 t0 x10 z) fun z2 => (if x10 = 0 then go 2 x2 x3 x4 x5 x6 x7 x8 x9 x10 r1 x7 1 z2
 else go 2 x2 x3 x4 x5 x6 x7 x8 x9 x10 r1 x9 1 z2)
def qm_X13_twoAt_2 (K : Nat) (go : Nat → Int32 → Int32 → Int32 → Int32 → Int32 → Int32 → Int32 → Int32 → Int32 → Nat → Int32 → Int32 → ow_MS → Option ow_MS) (x2 : Int32) (x3 : Int32) (x4 : Int32) (x5 : Int32) (x6 : Int32) (x7 : Int32) (x8 : Int32) (x9 : Int32) (x10 : Int32) (r1 : Nat) (t0 : Int32) (t1 : Int32) (z : ow_MS) : Option ow_MS :=
 cs0 (qe_X13_put K t1 t0 x10 z) fun z3 => (if x10 = 0 then go 3 x2 x3 x4 x5 x6 x7 x8 x9 x10 r1 x8 2 z3
 else go 3 x2 x3 x4 x5 x6 x7 x8 x9 x10 r1 x6 2 z3)
def qm_X13_twoAt_3 (K : Nat) (go : Nat → Int32 → Int32 → Int32 → Int32 → Int32 → Int32 → Int32 → Int32 → Int32 → Nat → Int32 → Int32 → ow_MS → Option ow_MS) (x2 : Int32) (x3 : Int32) (x4 : Int32) (x5 : Int32) (x6 : Int32) (x7 : Int32) (x8 : Int32) (x9 : Int32) (x10 : Int32) (r1 : Nat) (t0 : Int32) (t1 : Int32) (z : ow_MS) : Option ow_MS :=
 cs0 (qe_X13_put K t1 t0 (1 - x10) z) fun z4 => (if x10 = 0 then go 4 x2 x3 x4 x5 x6 x7 x8 x9 x10 r1 x9 3 z4
 else go 4 x2 x3 x4 x5 x6 x7 x8 x9 x10 r1 x7 3 z4)
def qm_X13_twoAt_4 (K : Nat) (go : Nat → Int32 → Int32 → Int32 → Int32 → Int32 → Int32 → Int32 → Int32 → Int32 → Nat → Int32 → Int32 → ow_MS → Option ow_MS) (x2 : Int32) (x3 : Int32) (x4 : Int32) (x5 : Int32) (x6 : Int32) (x7 : Int32) (x8 : Int32) (x9 : Int32) (x10 : Int32) (r1 : Nat) (t0 : Int32) (t1 : Int32) (z : ow_MS) : Option ow_MS :=
 cs0 (qe_X13_put K t1 t0 (1 - x10) z) fun z5 => cs0 (qe_X13_build K r1 x2 x3 z5) fun z6 => wrI mX z6 (3000 + 6) x5 1 fun z7 => wrI mX z7 (3000 + 6) (x5 + 1) (-1) fun z8 => cs0 (qe_X12_link K 3000 z8) fun z9 => cs1 (qe_X12_isPlane K 3000 z9) fun v11 z10 => (if v11 = 0 then some z10
 else cs0 (qe_X13_offer K z10) fun z12 => some z12)
def qb_X13_twoAt (K : Nat) (go : Nat → Int32 → Int32 → Int32 → Int32 → Int32 → Int32 → Int32 → Int32 → Int32 → Nat → Int32 → Int32 → ow_MS → Option ow_MS) (L : Nat) (x2 : Int32) (x3 : Int32) (x4 : Int32) (x5 : Int32) (x6 : Int32) (x7 : Int32) (x8 : Int32) (x9 : Int32) (x10 : Int32) (r1 : Nat) (t0 : Int32) (t1 : Int32) (z : ow_MS) : Option ow_MS := match L with
  | 0 => qm_X13_twoAt_0 K go x2 x3 x4 x5 x6 x7 x8 x9 x10 r1 t0 t1 z
  | 1 => qm_X13_twoAt_1 K go x2 x3 x4 x5 x6 x7 x8 x9 x10 r1 t0 t1 z
  | 2 => qm_X13_twoAt_2 K go x2 x3 x4 x5 x6 x7 x8 x9 x10 r1 t0 t1 z
  | 3 => qm_X13_twoAt_3 K go x2 x3 x4 x5 x6 x7 x8 x9 x10 r1 t0 t1 z
  | 4 => qm_X13_twoAt_4 K go x2 x3 x4 x5 x6 x7 x8 x9 x10 r1 t0 t1 z
  | _ => none
def q_X13_twoAt (K : Nat) : Nat → Nat → Int32 → Int32 → Int32 → Int32 → Int32 → Int32 → Int32 → Int32 → Int32 → Nat → Int32 → Int32 → ow_MS → Option ow_MS
  | 0 => fun _ _ _ _ _ _ _ _ _ _ _ _ _ _ => none
  | k + 1 => qb_X13_twoAt K (q_X13_twoAt K k)
def qe_X13_twoAt (K : Nat) (r1 : Nat) (x2 : Int32) (x3 : Int32) (x4 : Int32) (z : ow_MS) : Option ow_MS := q_X13_twoAt K K 0 x2 x3 x4 0 0 0 0 0 0 r1 0 0 z
abbrev wm_X13_twoAt : List Cond := .code yX13_twoAt cX13_twoAt 11 none :: wM
theorem cd_X13_twoAt : yX13_twoAt.cls = RX13 ∧ yX13_twoAt.cls ≠ "java/lang/invoke/MethodHandle" ∧ yX13_twoAt.cls ≠ "java/lang/invoke/VarHandle" ∧ (parseMethodDescriptor yX13_twoAt.desc).map (fun d => d.parameters.length) = some 4 := by decide +kernel
set_option maxHeartbeats 4000000 in
set_option maxRecDepth 100000 in
theorem km_X13_twoAt (l : Launch) (D : va_G) (q : ow_Q5) (u : Nat → Nat) (hU : tw_inj mX u) (K : Nat) (r1 : Nat) (x2 : Int32) (x3 : Int32) (x4 : Int32) (hr1 : mw_net r1) (z z1 : ow_MS) (hq : qe_X13_twoAt K r1 x2 x3 x4 z = some z1) : Met l yX13_twoAt wm_X13_twoAt ({ frames := 5, cells := 0, slots := 0, locals := 131 } : Room) (va_Pc [.ref (u 0), .ref (u r1), .int x2, .int x3, .int x4] (mw_pre D q u z)) (va_Qv (fun (_ : Unit) => True) (fun _ t => va_P D vwCl (tw mX q u z1) t.heap) (tw_A mX u)) 0 0 (tw_A mX u) := by
  refine Met.ofW (cc := cX13_twoAt) (maxL := 11) (ret := none) (by decide) rfl ?_
  intro p e s m args below meth c s₁ B hml hv
  obtain ⟨rfl, hP, hK, hN⟩ := hv
  have hx := B.exec
  have hb := B.bytes
  have hr := B.returns
  have hts := atoms_spec (ws := wm_X13_twoAt) B.pre
  have hT : ∀ w ∈ wM, w.before ([.ref (u 0), .ref (u r1), .int x2, .int x3, .int x4] : List Value).toArray s = true := fun w h => hts w (List.mem_cons_of_mem _ h)
  have hown : s.vm.findClass RX13 = some m.cls := findClass_of_methodNamed B.named
  have hlocks := B.notSynchronized
  have hM : tw_M D vwCl mX q s.heap u z s.heap [] := ⟨hP, va_S.rf⟩
  have hl := lv_entry ([.ref (u 0), .ref (u r1), .int x2, .int x3, .int x4]) (n := 11) (Nat.le_of_ble_eq_true rfl)
  rw [lg_entry_eq]
  generalize (lg_sl ([.ref (u 0), .ref (u r1), .int x2, .int x3, .int x4]) ++ List.replicate (11 - (lg_sl ([.ref (u 0), .ref (u r1), .int x2, .int x3, .int x4])).length) Slot.unset).toArray = ls at hl ⊢
  have hl : lv_has ls 11 [(0, .ref (u 0)), (1, .ref (u r1)), (2, .int x2), (3, .int x3), (4, .int x4)] := hl
  refine ow_named (fun QQ hQQ => ?_)
  generalize ([.ref (u 0), .ref (u r1), .int x2, .int x3, .int x4] : List Value).toArray = args at hts hT hQQ ⊢
  have key : ∀ k : Nat, (∀ (x2 : Int32) (x3 : Int32) (x4 : Int32) (x5 : Int32) (x6 : Int32) (x7 : Int32) (x8 : Int32) (x9 : Int32) (x10 : Int32) (r1 : Nat) (t0 : Int32) (t1 : Int32) (z : ow_MS) (H : Heap) (locs : List Loc) (ls : Array Slot), mw_net r1 → tw_M D vwCl mX q s.heap u z H locs → lv_has ls 11 [(0, .ref (u 0)), (1, .ref (u r1)), (2, .int x2), (3, .int x3), (4, .int x4)] → q_X13_twoAt K k 0 x2 x3 x4 x5 x6 x7 x8 x9 x10 r1 t0 t1 z = some z1 → W p l e ({ frames := 5, cells := 0, slots := 0, locals := 131 } : Room) s m args below meth c H locs 0 0 QQ (F0 m 0 ls [])) ∧ (∀ (x2 : Int32) (x3 : Int32) (x4 : Int32) (x5 : Int32) (x6 : Int32) (x7 : Int32) (x8 : Int32) (x9 : Int32) (x10 : Int32) (r1 : Nat) (t0 : Int32) (t1 : Int32) (z : ow_MS) (H : Heap) (locs : List Loc) (ls : Array Slot), mw_net r1 → tw_M D vwCl mX q s.heap u z H locs → lv_has ls 11 [(0, .ref (u 0)), (1, .ref (u r1)), (2, .int x2), (3, .int x3), (4, .int x4), (5, .int x5), (6, .int x6), (7, .int x7), (8, .int x8), (9, .int x9), (10, .int x10)] → q_X13_twoAt K k 1 x2 x3 x4 x5 x6 x7 x8 x9 x10 r1 t0 t1 z = some z1 → W p l e ({ frames := 5, cells := 0, slots := 0, locals := 131 } : Room) s m args below meth c H locs 0 0 QQ (F0 m 70 ls [.int t0, .int t1, .ref (u 0)])) ∧ (∀ (x2 : Int32) (x3 : Int32) (x4 : Int32) (x5 : Int32) (x6 : Int32) (x7 : Int32) (x8 : Int32) (x9 : Int32) (x10 : Int32) (r1 : Nat) (t0 : Int32) (t1 : Int32) (z : ow_MS) (H : Heap) (locs : List Loc) (ls : Array Slot), mw_net r1 → tw_M D vwCl mX q s.heap u z H locs → lv_has ls 11 [(0, .ref (u 0)), (1, .ref (u r1)), (2, .int x2), (3, .int x3), (4, .int x4), (5, .int x5), (6, .int x6), (7, .int x7), (8, .int x8), (9, .int x9), (10, .int x10)] → q_X13_twoAt K k 2 x2 x3 x4 x5 x6 x7 x8 x9 x10 r1 t0 t1 z = some z1 → W p l e ({ frames := 5, cells := 0, slots := 0, locals := 131 } : Room) s m args below meth c H locs 0 0 QQ (F0 m 89 ls [.int t0, .int t1, .ref (u 0)])) ∧ (∀ (x2 : Int32) (x3 : Int32) (x4 : Int32) (x5 : Int32) (x6 : Int32) (x7 : Int32) (x8 : Int32) (x9 : Int32) (x10 : Int32) (r1 : Nat) (t0 : Int32) (t1 : Int32) (z : ow_MS) (H : Heap) (locs : List Loc) (ls : Array Slot), mw_net r1 → tw_M D vwCl mX q s.heap u z H locs → lv_has ls 11 [(0, .ref (u 0)), (1, .ref (u r1)), (2, .int x2), (3, .int x3), (4, .int x4), (5, .int x5), (6, .int x6), (7, .int x7), (8, .int x8), (9, .int x9), (10, .int x10)] → q_X13_twoAt K k 3 x2 x3 x4 x5 x6 x7 x8 x9 x10 r1 t0 t1 z = some z1 → W p l e ({ frames := 5, cells := 0, slots := 0, locals := 131 } : Room) s m args below meth c H locs 0 0 QQ (F0 m 108 ls [.int t0, .int t1, .ref (u 0)])) ∧ (∀ (x2 : Int32) (x3 : Int32) (x4 : Int32) (x5 : Int32) (x6 : Int32) (x7 : Int32) (x8 : Int32) (x9 : Int32) (x10 : Int32) (r1 : Nat) (t0 : Int32) (t1 : Int32) (z : ow_MS) (H : Heap) (locs : List Loc) (ls : Array Slot), mw_net r1 → tw_M D vwCl mX q s.heap u z H locs → lv_has ls 11 [(0, .ref (u 0)), (1, .ref (u r1)), (2, .int x2), (3, .int x3), (4, .int x4), (5, .int x5), (6, .int x6), (7, .int x7), (8, .int x8), (9, .int x9), (10, .int x10)] → q_X13_twoAt K k 4 x2 x3 x4 x5 x6 x7 x8 x9 x10 r1 t0 t1 z = some z1 → W p l e ({ frames := 5, cells := 0, slots := 0, locals := 131 } : Room) s m args below meth c H locs 0 0 QQ (F0 m 129 ls [.int t0, .int t1, .ref (u 0)])) := by
    intro k
    induction k with
    | zero => exact ⟨fun _ _ _ _ _ _ _ _ _ _ _ _ _ _ _ _ _ _ _ hq => tw_no hq, fun _ _ _ _ _ _ _ _ _ _ _ _ _ _ _ _ _ _ _ hq => tw_no hq, fun _ _ _ _ _ _ _ _ _ _ _ _ _ _ _ _ _ _ _ hq => tw_no hq, fun _ _ _ _ _ _ _ _ _ _ _ _ _ _ _ _ _ _ _ hq => tw_no hq, fun _ _ _ _ _ _ _ _ _ _ _ _ _ _ _ _ _ _ _ hq => tw_no hq⟩
    | succ k ih =>
      obtain ⟨ih_0, ih_1, ih_2, ih_3, ih_4⟩ := ih
      refine ⟨?_, ?_, ?_, ?_, ?_⟩
      · intro x2 x3 x4 x5 x6 x7 x8 x9 x10 r1 t0 t1 z H locs ls hr1 hM hl hq
        have hq : qm_X13_twoAt_0 K (q_X13_twoAt K k) x2 x3 x4 x5 x6 x7 x8 x9 x10 r1 t0 t1 z = some z1 := hq
        unfold qm_X13_twoAt_0 at hq
        refine lv_aload_n hx hb dmX13_twoAt_0 rfl (lv_at hl 1 rfl) ?_
        refine mg13_44 hx hb hT hown hK hM hN hr1 hq dmX13_twoAt_1 (fun v1 hq => ?_)
        refine lv_iconst (v := 2) hx hb dmX13_twoAt_4 (by decide) ?_
        obtain ⟨hz, hq⟩ := tw_nzI hq
        refine lv_idiv hx hb dmX13_twoAt_5 hz ?_
        refine lv_istore (lv' := [(5, .int (v1 / 2)), (0, .ref (u 0)), (1, .ref (u r1)), (2, .int x2), (3, .int x3), (4, .int x4)]) hx hb dmX13_twoAt_6 hl (by decide) rfl (fun ls hl => ?_)
        refine lv_iload hx hb dmX13_twoAt_8 (lv_at hl 0 rfl) ?_
        refine lv_iload hx hb dmX13_twoAt_10 (lv_at hl 5 rfl) ?_
        refine lv_iconst (v := 1) hx hb dmX13_twoAt_12 (by decide) ?_
        refine lv_iand hx hb dmX13_twoAt_13 ?_
        refine lv_iadd hx hb dmX13_twoAt_14 ?_
        refine lv_istore (lv' := [(6, .int ((v1 / 2) + (x4 &&& 1))), (5, .int (v1 / 2)), (0, .ref (u 0)), (1, .ref (u r1)), (2, .int x2), (3, .int x3), (4, .int x4)]) hx hb dmX13_twoAt_15 hl (by decide) rfl (fun ls hl => ?_)
        refine lv_iconst (v := 2) hx hb dmX13_twoAt_17 (by decide) ?_
        refine lv_iload hx hb dmX13_twoAt_18 (lv_at hl 1 rfl) ?_
        refine lv_imul hx hb dmX13_twoAt_20 ?_
        refine lv_iconst (v := 1) hx hb dmX13_twoAt_21 (by decide) ?_
        refine lv_iadd hx hb dmX13_twoAt_22 ?_
        refine lv_iload hx hb dmX13_twoAt_23 (lv_at hl 0 rfl) ?_
        refine lv_isub hx hb dmX13_twoAt_25 ?_
        refine lv_istore (lv' := [(7, .int (((2 * (v1 / 2)) + 1) - ((v1 / 2) + (x4 &&& 1)))), (6, .int ((v1 / 2) + (x4 &&& 1))), (5, .int (v1 / 2)), (0, .ref (u 0)), (1, .ref (u r1)), (2, .int x2), (3, .int x3), (4, .int x4)]) hx hb dmX13_twoAt_26 hl (by decide) rfl (fun ls hl => ?_)
        refine lv_iload hx hb dmX13_twoAt_28 (lv_at hl 2 rfl) ?_
        refine lv_iload hx hb dmX13_twoAt_30 (lv_at hl 7 rfl) ?_
        refine lv_iconst (v := 1) hx hb dmX13_twoAt_32 (by decide) ?_
        refine lv_ishr hx hb dmX13_twoAt_33 ?_
        refine lv_iconst (v := 1) hx hb dmX13_twoAt_34 (by decide) ?_
        refine lv_iand hx hb dmX13_twoAt_35 ?_
        refine lv_iadd hx hb dmX13_twoAt_36 ?_
        refine lv_istore (lv' := [(8, .int ((v1 / 2) + (((x4 : Int32) >>> ((1 : Int32) &&& 31)) &&& 1))), (7, .int (((2 * (v1 / 2)) + 1) - ((v1 / 2) + (x4 &&& 1)))), (6, .int ((v1 / 2) + (x4 &&& 1))), (5, .int (v1 / 2)), (0, .ref (u 0)), (1, .ref (u r1)), (2, .int x2), (3, .int x3), (4, .int x4)]) hx hb dmX13_twoAt_37 hl (by decide) rfl (fun ls hl => ?_)
        refine lv_iconst (v := 2) hx hb dmX13_twoAt_39 (by decide) ?_
        refine lv_iload hx hb dmX13_twoAt_40 (lv_at hl 3 rfl) ?_
        refine lv_imul hx hb dmX13_twoAt_42 ?_
        refine lv_iconst (v := 1) hx hb dmX13_twoAt_43 (by decide) ?_
        refine lv_iadd hx hb dmX13_twoAt_44 ?_
        refine lv_iload hx hb dmX13_twoAt_45 (lv_at hl 0 rfl) ?_
        refine lv_isub hx hb dmX13_twoAt_47 ?_
        refine lv_istore (lv' := [(9, .int (((2 * (v1 / 2)) + 1) - ((v1 / 2) + (((x4 : Int32) >>> ((1 : Int32) &&& 31)) &&& 1)))), (8, .int ((v1 / 2) + (((x4 : Int32) >>> ((1 : Int32) &&& 31)) &&& 1))), (7, .int (((2 * (v1 / 2)) + 1) - ((v1 / 2) + (x4 &&& 1)))), (6, .int ((v1 / 2) + (x4 &&& 1))), (5, .int (v1 / 2)), (0, .ref (u 0)), (1, .ref (u r1)), (2, .int x2), (3, .int x3), (4, .int x4)]) hx hb dmX13_twoAt_48 hl (by decide) rfl (fun ls hl => ?_)
        refine lv_iload hx hb dmX13_twoAt_50 (lv_at hl 9 rfl) ?_
        refine lv_iconst (v := 2) hx hb dmX13_twoAt_52 (by decide) ?_
        refine lv_ishr hx hb dmX13_twoAt_53 ?_
        refine lv_istore (lv' := [(10, .int ((x4 : Int32) >>> ((2 : Int32) &&& 31))), (9, .int (((2 * (v1 / 2)) + 1) - ((v1 / 2) + (((x4 : Int32) >>> ((1 : Int32) &&& 31)) &&& 1)))), (8, .int ((v1 / 2) + (((x4 : Int32) >>> ((1 : Int32) &&& 31)) &&& 1))), (7, .int (((2 * (v1 / 2)) + 1) - ((v1 / 2) + (x4 &&& 1)))), (6, .int ((v1 / 2) + (x4 &&& 1))), (5, .int (v1 / 2)), (0, .ref (u 0)), (1, .ref (u r1)), (2, .int x2), (3, .int x3), (4, .int x4)]) hx hb dmX13_twoAt_54 hl (by decide) rfl (fun ls hl => ?_)
        refine lv_aload_n hx hb dmX13_twoAt_56 rfl (lv_at hl 6 rfl) ?_
        refine lv_iconst (v := 0) hx hb dmX13_twoAt_57 (by decide) ?_
        refine lv_iload hx hb dmX13_twoAt_58 (lv_at hl 0 rfl) ?_
        refine lv_if_ne (tgt := 68) hx hb dmX13_twoAt_60 (by decide) (fun hc => ?_) (fun hc => ?_)
        · have hq := tw_if hq hc
          refine lv_iload hx hb dmX13_twoAt_68 (lv_at hl 2 rfl) ?_
          exact ih_1 x2 x3 x4 (v1 / 2) ((v1 / 2) + (x4 &&& 1)) (((2 * (v1 / 2)) + 1) - ((v1 / 2) + (x4 &&& 1))) ((v1 / 2) + (((x4 : Int32) >>> ((1 : Int32) &&& 31)) &&& 1)) (((2 * (v1 / 2)) + 1) - ((v1 / 2) + (((x4 : Int32) >>> ((1 : Int32) &&& 31)) &&& 1))) ((x4 : Int32) >>> ((2 : Int32) &&& 31)) r1 ((v1 / 2) + (((x4 : Int32) >>> ((1 : Int32) &&& 31)) &&& 1)) 0 z H locs ls hr1 hM (lv_sub hl [6, 7, 8, 9, 10, 5, 4, 3, 2, 1, 0] rfl) hq
        · have hq := tw_it hq hc
          refine lv_iload hx hb dmX13_twoAt_63 (lv_at hl 4 rfl) ?_
          refine lv_goto (tgt := 70) hx hb dmX13_twoAt_65 (by decide) ?_
          exact ih_1 x2 x3 x4 (v1 / 2) ((v1 / 2) + (x4 &&& 1)) (((2 * (v1 / 2)) + 1) - ((v1 / 2) + (x4 &&& 1))) ((v1 / 2) + (((x4 : Int32) >>> ((1 : Int32) &&& 31)) &&& 1)) (((2 * (v1 / 2)) + 1) - ((v1 / 2) + (((x4 : Int32) >>> ((1 : Int32) &&& 31)) &&& 1))) ((x4 : Int32) >>> ((2 : Int32) &&& 31)) r1 ((v1 / 2) + (x4 &&& 1)) 0 z H locs ls hr1 hM (lv_sub hl [6, 7, 8, 9, 10, 5, 4, 3, 2, 1, 0] rfl) hq
      · intro x2 x3 x4 x5 x6 x7 x8 x9 x10 r1 t0 t1 z H locs ls hr1 hM hl hq
        have hq : qm_X13_twoAt_1 K (q_X13_twoAt K k) x2 x3 x4 x5 x6 x7 x8 x9 x10 r1 t0 t1 z = some z1 := hq
        unfold qm_X13_twoAt_1 at hq
        refine lv_iload hx hb dmX13_twoAt_70 (lv_at hl 10 rfl) ?_
        obtain ⟨z2, hcq, hq⟩ := tw_cl0 hq
        refine tw_calv hM (va_runV (As := [.int t1, .int t0, .int x10]) (rest := []) ⟨hx, hb, hml, hown, hts⟩ (km_X13_put l D q u hU K t1 t0 x10 z z2 hcq) (cwV 3 hts (tw_gV wM_good wq_207 wq_208 wq_209 wq_61 wq_198) rfl rfl rfl cd_X13_put ⟨(Nat.le_of_ble_eq_true rfl), (Nat.le_of_ble_eq_true rfl)⟩) (mw_preV hK hN hM mo_0 rfl) rfl rfl hl.1 rfl (lv_room (Nat.le_of_ble_eq_true rfl)) dmX13_twoAt_72 ⟨(Nat.le_of_ble_eq_true rfl), (Nat.le_of_ble_eq_true rfl)⟩) (fun H locs hM => ?_)
        refine lv_aload_n hx hb dmX13_twoAt_75 rfl (lv_at hl 0 rfl) ?_
        refine lv_iconst (v := 1) hx hb dmX13_twoAt_76 (by decide) ?_
        refine lv_iload hx hb dmX13_twoAt_77 (lv_at hl 10 rfl) ?_
        refine lv_if_ne (tgt := 87) hx hb dmX13_twoAt_79 (by decide) (fun hc => ?_) (fun hc => ?_)
        · have hq := tw_if hq hc
          refine lv_iload hx hb dmX13_twoAt_87 (lv_at hl 9 rfl) ?_
          exact ih_2 x2 x3 x4 x5 x6 x7 x8 x9 x10 r1 x9 1 z2 H locs ls hr1 hM (lv_sub hl [0, 1, 2, 3, 4, 5, 6, 7, 8, 9, 10] rfl) hq
        · have hq := tw_it hq hc
          refine lv_iload hx hb dmX13_twoAt_82 (lv_at hl 7 rfl) ?_
          refine lv_goto (tgt := 89) hx hb dmX13_twoAt_84 (by decide) ?_
          exact ih_2 x2 x3 x4 x5 x6 x7 x8 x9 x10 r1 x7 1 z2 H locs ls hr1 hM (lv_sub hl [0, 1, 2, 3, 4, 5, 6, 7, 8, 9, 10] rfl) hq
      · intro x2 x3 x4 x5 x6 x7 x8 x9 x10 r1 t0 t1 z H locs ls hr1 hM hl hq
        have hq : qm_X13_twoAt_2 K (q_X13_twoAt K k) x2 x3 x4 x5 x6 x7 x8 x9 x10 r1 t0 t1 z = some z1 := hq
        unfold qm_X13_twoAt_2 at hq
        refine lv_iload hx hb dmX13_twoAt_89 (lv_at hl 10 rfl) ?_
        obtain ⟨z3, hcq, hq⟩ := tw_cl0 hq
        refine tw_calv hM (va_runV (As := [.int t1, .int t0, .int x10]) (rest := []) ⟨hx, hb, hml, hown, hts⟩ (km_X13_put l D q u hU K t1 t0 x10 z z3 hcq) (cwV 3 hts (tw_gV wM_good wq_207 wq_208 wq_209 wq_61 wq_198) rfl rfl rfl cd_X13_put ⟨(Nat.le_of_ble_eq_true rfl), (Nat.le_of_ble_eq_true rfl)⟩) (mw_preV hK hN hM mo_0 rfl) rfl rfl hl.1 rfl (lv_room (Nat.le_of_ble_eq_true rfl)) dmX13_twoAt_91 ⟨(Nat.le_of_ble_eq_true rfl), (Nat.le_of_ble_eq_true rfl)⟩) (fun H locs hM => ?_)
        refine lv_aload_n hx hb dmX13_twoAt_94 rfl (lv_at hl 0 rfl) ?_
        refine lv_iconst (v := 2) hx hb dmX13_twoAt_95 (by decide) ?_
        refine lv_iload hx hb dmX13_twoAt_96 (lv_at hl 10 rfl) ?_
        refine lv_if_ne (tgt := 106) hx hb dmX13_twoAt_98 (by decide) (fun hc => ?_) (fun hc => ?_)
        · have hq := tw_if hq hc
          refine lv_iload hx hb dmX13_twoAt_106 (lv_at hl 6 rfl) ?_
          exact ih_3 x2 x3 x4 x5 x6 x7 x8 x9 x10 r1 x6 2 z3 H locs ls hr1 hM (lv_sub hl [0, 1, 2, 3, 4, 5, 6, 7, 8, 9, 10] rfl) hq
        · have hq := tw_it hq hc
          refine lv_iload hx hb dmX13_twoAt_101 (lv_at hl 8 rfl) ?_
          refine lv_goto (tgt := 108) hx hb dmX13_twoAt_103 (by decide) ?_
          exact ih_3 x2 x3 x4 x5 x6 x7 x8 x9 x10 r1 x8 2 z3 H locs ls hr1 hM (lv_sub hl [0, 1, 2, 3, 4, 5, 6, 7, 8, 9, 10] rfl) hq
      · intro x2 x3 x4 x5 x6 x7 x8 x9 x10 r1 t0 t1 z H locs ls hr1 hM hl hq
        have hq : qm_X13_twoAt_3 K (q_X13_twoAt K k) x2 x3 x4 x5 x6 x7 x8 x9 x10 r1 t0 t1 z = some z1 := hq
        unfold qm_X13_twoAt_3 at hq
        refine lv_iconst (v := 1) hx hb dmX13_twoAt_108 (by decide) ?_
        refine lv_iload hx hb dmX13_twoAt_109 (lv_at hl 10 rfl) ?_
        refine lv_isub hx hb dmX13_twoAt_111 ?_
        obtain ⟨z4, hcq, hq⟩ := tw_cl0 hq
        refine tw_calv hM (va_runV (As := [.int t1, .int t0, .int (1 - x10)]) (rest := []) ⟨hx, hb, hml, hown, hts⟩ (km_X13_put l D q u hU K t1 t0 (1 - x10) z z4 hcq) (cwV 3 hts (tw_gV wM_good wq_207 wq_208 wq_209 wq_61 wq_198) rfl rfl rfl cd_X13_put ⟨(Nat.le_of_ble_eq_true rfl), (Nat.le_of_ble_eq_true rfl)⟩) (mw_preV hK hN hM mo_0 rfl) rfl rfl hl.1 rfl (lv_room (Nat.le_of_ble_eq_true rfl)) dmX13_twoAt_112 ⟨(Nat.le_of_ble_eq_true rfl), (Nat.le_of_ble_eq_true rfl)⟩) (fun H locs hM => ?_)
        refine lv_aload_n hx hb dmX13_twoAt_115 rfl (lv_at hl 0 rfl) ?_
        refine lv_iconst (v := 3) hx hb dmX13_twoAt_116 (by decide) ?_
        refine lv_iload hx hb dmX13_twoAt_117 (lv_at hl 10 rfl) ?_
        refine lv_if_ne (tgt := 127) hx hb dmX13_twoAt_119 (by decide) (fun hc => ?_) (fun hc => ?_)
        · have hq := tw_if hq hc
          refine lv_iload hx hb dmX13_twoAt_127 (lv_at hl 7 rfl) ?_
          exact ih_4 x2 x3 x4 x5 x6 x7 x8 x9 x10 r1 x7 3 z4 H locs ls hr1 hM (lv_sub hl [0, 1, 2, 3, 4, 5, 6, 7, 8, 9, 10] rfl) hq
        · have hq := tw_it hq hc
          refine lv_iload hx hb dmX13_twoAt_122 (lv_at hl 9 rfl) ?_
          refine lv_goto (tgt := 129) hx hb dmX13_twoAt_124 (by decide) ?_
          exact ih_4 x2 x3 x4 x5 x6 x7 x8 x9 x10 r1 x9 3 z4 H locs ls hr1 hM (lv_sub hl [0, 1, 2, 3, 4, 5, 6, 7, 8, 9, 10] rfl) hq
      · intro x2 x3 x4 x5 x6 x7 x8 x9 x10 r1 t0 t1 z H locs ls hr1 hM hl hq
        have hq : qm_X13_twoAt_4 K (q_X13_twoAt K k) x2 x3 x4 x5 x6 x7 x8 x9 x10 r1 t0 t1 z = some z1 := hq
        unfold qm_X13_twoAt_4 at hq
        refine lv_iconst (v := 1) hx hb dmX13_twoAt_129 (by decide) ?_
        refine lv_iload hx hb dmX13_twoAt_130 (lv_at hl 10 rfl) ?_
        refine lv_isub hx hb dmX13_twoAt_132 ?_
        obtain ⟨z5, hcq, hq⟩ := tw_cl0 hq
        refine tw_calv hM (va_runV (As := [.int t1, .int t0, .int (1 - x10)]) (rest := []) ⟨hx, hb, hml, hown, hts⟩ (km_X13_put l D q u hU K t1 t0 (1 - x10) z z5 hcq) (cwV 3 hts (tw_gV wM_good wq_207 wq_208 wq_209 wq_61 wq_198) rfl rfl rfl cd_X13_put ⟨(Nat.le_of_ble_eq_true rfl), (Nat.le_of_ble_eq_true rfl)⟩) (mw_preV hK hN hM mo_0 rfl) rfl rfl hl.1 rfl (lv_room (Nat.le_of_ble_eq_true rfl)) dmX13_twoAt_133 ⟨(Nat.le_of_ble_eq_true rfl), (Nat.le_of_ble_eq_true rfl)⟩) (fun H locs hM => ?_)
        refine lv_aload_n hx hb dmX13_twoAt_136 rfl (lv_at hl 0 rfl) ?_
        refine lv_aload_n hx hb dmX13_twoAt_137 rfl (lv_at hl 1 rfl) ?_
        refine lv_iload_n hx hb dmX13_twoAt_138 rfl (lv_at hl 2 rfl) ?_
        refine lv_iload_n hx hb dmX13_twoAt_139 rfl (lv_at hl 3 rfl) ?_
        obtain ⟨z6, hcq, hq⟩ := tw_cl0 hq
        refine tw_calv hM (va_runV (As := [.ref (u r1), .int x2, .int x3]) (rest := []) ⟨hx, hb, hml, hown, hts⟩ (km_X13_build l D q u hU K r1 x2 x3 hr1 z5 z6 hcq) (cwV 3 hts (tw_gV wM_good wq_210 wq_211 wq_212 wq_61 wq_203) rfl rfl rfl cd_X13_build ⟨(Nat.le_of_ble_eq_true rfl), (Nat.le_of_ble_eq_true rfl)⟩) (mw_preV hK hN hM mo_0 rfl) rfl rfl hl.1 rfl (lv_room (Nat.le_of_ble_eq_true rfl)) dmX13_twoAt_140 ⟨(Nat.le_of_ble_eq_true rfl), (Nat.le_of_ble_eq_true rfl)⟩) (fun H locs hM => ?_)
        refine lv_aload_n hx hb dmX13_twoAt_143 rfl (lv_at hl 0 rfl) ?_
        refine mg13_121 hx hb hT hown hK hM dmX13_twoAt_144 ?_
        refine mg13_35 hx hb hT hown hK hM hN mw_n3 dmX13_twoAt_147 ?_
        refine lv_iload hx hb dmX13_twoAt_150 (lv_at hl 5 rfl) ?_
        refine lv_iconst (v := 1) hx hb dmX13_twoAt_152 (by decide) ?_
        refine tw_iast mX_ok hU hx hb hK hM (mrn_6 mw_n3) hq dmX13_twoAt_153 (fun z7 H locs hM hq => ?_)
        refine lv_aload_n hx hb dmX13_twoAt_154 rfl (lv_at hl 0 rfl) ?_
        refine mg13_121 hx hb hT hown hK hM dmX13_twoAt_155 ?_
        refine mg13_35 hx hb hT hown hK hM hN mw_n3 dmX13_twoAt_158 ?_
        refine lv_iload hx hb dmX13_twoAt_161 (lv_at hl 5 rfl) ?_
        refine lv_iconst (v := 1) hx hb dmX13_twoAt_163 (by decide) ?_
        refine lv_iadd hx hb dmX13_twoAt_164 ?_
        refine lv_iconst (v := (-1)) hx hb dmX13_twoAt_165 (by decide) ?_
        refine tw_iast mX_ok hU hx hb hK hM (mrn_6 mw_n3) hq dmX13_twoAt_166 (fun z8 H locs hM hq => ?_)
        refine lv_aload_n hx hb dmX13_twoAt_167 rfl (lv_at hl 0 rfl) ?_
        refine mg13_121 hx hb hT hown hK hM dmX13_twoAt_168 ?_
        obtain ⟨z9, hcq, hq⟩ := tw_cl0 hq
        refine tw_calv hM (va_runV (As := []) (rest := []) ⟨hx, hb, hml, hown, hts⟩ (km_X12_link l D q u hU K 3000 mw_n3 z8 z9 hcq) (cwV 0 hts (tw_gV wM_good wq_77 wq_78 wq_79 wq_13 wq_30) rfl rfl rfl cd_X12_link ⟨(Nat.le_of_ble_eq_true rfl), (Nat.le_of_ble_eq_true rfl)⟩) (mw_preV hK hN hM (mo_n mw_n3) rfl) rfl rfl hl.1 rfl (lv_room (Nat.le_of_ble_eq_true rfl)) dmX13_twoAt_171 ⟨(Nat.le_of_ble_eq_true rfl), (Nat.le_of_ble_eq_true rfl)⟩) (fun H locs hM => ?_)
        refine lv_aload_n hx hb dmX13_twoAt_174 rfl (lv_at hl 0 rfl) ?_
        refine mg13_121 hx hb hT hown hK hM dmX13_twoAt_175 ?_
        obtain ⟨v11, z10, hcq, hq⟩ := tw_cl1 hq
        refine tw_cali hM (va_runV (As := []) (rest := []) ⟨hx, hb, hml, hown, hts⟩ (km_X12_isPlane l D q u hU K 3000 mw_n3 z9 z10 v11 hcq) (cwV 0 hts (tw_gV wM_good wq_116 wq_117 wq_118 wq_13 wq_47) rfl rfl rfl cd_X12_isPlane ⟨(Nat.le_of_ble_eq_true rfl), (Nat.le_of_ble_eq_true rfl)⟩) (mw_preV hK hN hM (mo_n mw_n3) rfl) rfl rfl hl.1 rfl (lv_room (Nat.le_of_ble_eq_true rfl)) dmX13_twoAt_178 ⟨(Nat.le_of_ble_eq_true rfl), (Nat.le_of_ble_eq_true rfl)⟩) (fun H locs hM => ?_)
        refine lv_if_eq (tgt := 188) hx hb dmX13_twoAt_181 (by decide) (fun hc => ?_) (fun hc => ?_)
        · have hq := tw_it hq hc
          exact mw_vret hx hb hr hlocks hM hq hQQ dmX13_twoAt_188
        · have hq := tw_if hq hc
          refine lv_aload_n hx hb dmX13_twoAt_184 rfl (lv_at hl 0 rfl) ?_
          obtain ⟨z12, hcq, hq⟩ := tw_cl0 hq
          refine tw_calv hM (va_runV (As := []) (rest := []) ⟨hx, hb, hml, hown, hts⟩ (km_X13_offer l D q u hU K z10 z12 hcq) (cwV 0 hts (tw_gV wM_good wq_192 wq_193 wq_194 wq_61 wq_191) rfl rfl rfl cd_X13_offer ⟨(Nat.le_of_ble_eq_true rfl), (Nat.le_of_ble_eq_true rfl)⟩) (mw_preV hK hN hM mo_0 rfl) rfl rfl hl.1 rfl (lv_room (Nat.le_of_ble_eq_true rfl)) dmX13_twoAt_185 ⟨(Nat.le_of_ble_eq_true rfl), (Nat.le_of_ble_eq_true rfl)⟩) (fun H locs hM => ?_)
          exact mw_vret hx hb hr hlocks hM hq hQQ dmX13_twoAt_188
  exact (key K).1 x2 x3 x4 0 0 0 0 0 0 r1 0 0 z s.heap [] ls hr1 hM (lv_sub hl [0, 1, 2, 3, 4] rfl) hq
theorem dmX13_twoCome_0 : decode cX13_twoCome 0 = .ok (.iconst 0, 1) := dw_at cX13_twoCome_k0 (p := 0) rfl (by decide +kernel)
theorem dmX13_twoCome_1 : decode cX13_twoCome 1 = .ok (.istore_n 2, 1) := dw_at cX13_twoCome_k0 (p := 1) rfl (by decide +kernel)
theorem dmX13_twoCome_2 : decode cX13_twoCome 2 = .ok (.iload_n 2, 1) := dw_at cX13_twoCome_k0 (p := 2) rfl (by decide +kernel)
theorem dmX13_twoCome_3 : decode cX13_twoCome 3 = .ok (.aload_n 1, 1) := dw_at cX13_twoCome_k0 (p := 3) rfl (by decide +kernel)
theorem dmX13_twoCome_4 : decode cX13_twoCome 4 = .ok (.getfield 44, 3) := dw_at cX13_twoCome_k0 (p := 4) rfl (by decide +kernel)
theorem dmX13_twoCome_7 : decode cX13_twoCome 7 = .ok (.aload_n 1, 1) := dw_at cX13_twoCome_k0 (p := 7) rfl (by decide +kernel)
theorem dmX13_twoCome_8 : decode cX13_twoCome 8 = .ok (.getfield 407, 3) := dw_at cX13_twoCome_k0 (p := 8) rfl (by decide +kernel)
theorem dmX13_twoCome_11 : decode cX13_twoCome 11 = .ok (.iadd, 1) := dw_at cX13_twoCome_k0 (p := 11) rfl (by decide +kernel)
theorem dmX13_twoCome_12 : decode cX13_twoCome 12 = .ok (.if_icmp .ge 80, 3) := dw_at cX13_twoCome_k0 (p := 12) rfl (by decide +kernel)
theorem dmX13_twoCome_15 : decode cX13_twoCome 15 = .ok (.iconst 0, 1) := dw_at cX13_twoCome_k0 (p := 15) rfl (by decide +kernel)
theorem dmX13_twoCome_16 : decode cX13_twoCome 16 = .ok (.istore_n 3, 1) := dw_at cX13_twoCome_k0 (p := 16) rfl (by decide +kernel)
theorem dmX13_twoCome_17 : decode cX13_twoCome 17 = .ok (.iload_n 3, 1) := dw_at cX13_twoCome_k0 (p := 17) rfl (by decide +kernel)
theorem dmX13_twoCome_18 : decode cX13_twoCome 18 = .ok (.aload_n 1, 1) := dw_at cX13_twoCome_k0 (p := 18) rfl (by decide +kernel)
theorem dmX13_twoCome_19 : decode cX13_twoCome 19 = .ok (.getfield 44, 3) := dw_at cX13_twoCome_k0 (p := 19) rfl (by decide +kernel)
theorem dmX13_twoCome_22 : decode cX13_twoCome 22 = .ok (.aload_n 1, 1) := dw_at cX13_twoCome_k0 (p := 22) rfl (by decide +kernel)
theorem dmX13_twoCome_23 : decode cX13_twoCome 23 = .ok (.getfield 407, 3) := dw_at cX13_twoCome_k0 (p := 23) rfl (by decide +kernel)
theorem dmX13_twoCome_26 : decode cX13_twoCome 26 = .ok (.iadd, 1) := dw_at cX13_twoCome_k1 (p := 0) rfl (by decide +kernel)
theorem dmX13_twoCome_27 : decode cX13_twoCome 27 = .ok (.if_icmp .ge 59, 3) := dw_at cX13_twoCome_k1 (p := 1) rfl (by decide +kernel)
theorem dmX13_twoCome_30 : decode cX13_twoCome 30 = .ok (.iconst 0, 1) := dw_at cX13_twoCome_k1 (p := 4) rfl (by decide +kernel)
theorem dmX13_twoCome_31 : decode cX13_twoCome 31 = .ok (.istore 4, 2) := dw_at cX13_twoCome_k1 (p := 5) rfl (by decide +kernel)
theorem dmX13_twoCome_33 : decode cX13_twoCome 33 = .ok (.iload 4, 2) := dw_at cX13_twoCome_k1 (p := 7) rfl (by decide +kernel)
theorem dmX13_twoCome_35 : decode cX13_twoCome 35 = .ok (.iload_n 2, 1) := dw_at cX13_twoCome_k1 (p := 9) rfl (by decide +kernel)
theorem dmX13_twoCome_36 : decode cX13_twoCome 36 = .ok (.iload_n 3, 1) := dw_at cX13_twoCome_k1 (p := 10) rfl (by decide +kernel)
theorem dmX13_twoCome_37 : decode cX13_twoCome 37 = .ok (.if_icmp .ne 8, 3) := dw_at cX13_twoCome_k1 (p := 11) rfl (by decide +kernel)
theorem dmX13_twoCome_40 : decode cX13_twoCome 40 = .ok (.bipush 8, 2) := dw_at cX13_twoCome_k1 (p := 14) rfl (by decide +kernel)
theorem dmX13_twoCome_42 : decode cX13_twoCome 42 = .ok (.goto 4, 3) := dw_at cX13_twoCome_k1 (p := 16) rfl (by decide +kernel)
theorem dmX13_twoCome_45 : decode cX13_twoCome 45 = .ok (.iconst 4, 1) := dw_at cX13_twoCome_k1 (p := 19) rfl (by decide +kernel)
theorem dmX13_twoCome_46 : decode cX13_twoCome 46 = .ok (.if_icmp .ge 34, 3) := dw_at cX13_twoCome_k1 (p := 20) rfl (by decide +kernel)
theorem dmX13_twoCome_49 : decode cX13_twoCome 49 = .ok (.aload_n 1, 1) := dw_at cX13_twoCome_k1 (p := 23) rfl (by decide +kernel)
theorem dmX13_twoCome_50 : decode cX13_twoCome 50 = .ok (.iload_n 2, 1) := dw_at cX13_twoCome_k2 (p := 0) rfl (by decide +kernel)
theorem dmX13_twoCome_51 : decode cX13_twoCome 51 = .ok (.invokestatic 498, 3) := dw_at cX13_twoCome_k2 (p := 1) rfl (by decide +kernel)
theorem dmX13_twoCome_54 : decode cX13_twoCome 54 = .ok (.ifCond .eq 26, 3) := dw_at cX13_twoCome_k2 (p := 4) rfl (by decide +kernel)
theorem dmX13_twoCome_57 : decode cX13_twoCome 57 = .ok (.aload_n 1, 1) := dw_at cX13_twoCome_k2 (p := 7) rfl (by decide +kernel)
theorem dmX13_twoCome_58 : decode cX13_twoCome 58 = .ok (.iload_n 3, 1) := dw_at cX13_twoCome_k2 (p := 8) rfl (by decide +kernel)
theorem dmX13_twoCome_59 : decode cX13_twoCome 59 = .ok (.invokestatic 498, 3) := dw_at cX13_twoCome_k2 (p := 9) rfl (by decide +kernel)
theorem dmX13_twoCome_62 : decode cX13_twoCome 62 = .ok (.ifCond .eq 18, 3) := dw_at cX13_twoCome_k2 (p := 12) rfl (by decide +kernel)
theorem dmX13_twoCome_65 : decode cX13_twoCome 65 = .ok (.aload_n 0, 1) := dw_at cX13_twoCome_k2 (p := 15) rfl (by decide +kernel)
theorem dmX13_twoCome_66 : decode cX13_twoCome 66 = .ok (.aload_n 1, 1) := dw_at cX13_twoCome_k2 (p := 16) rfl (by decide +kernel)
theorem dmX13_twoCome_67 : decode cX13_twoCome 67 = .ok (.iload_n 2, 1) := dw_at cX13_twoCome_k2 (p := 17) rfl (by decide +kernel)
theorem dmX13_twoCome_68 : decode cX13_twoCome 68 = .ok (.iload_n 3, 1) := dw_at cX13_twoCome_k2 (p := 18) rfl (by decide +kernel)
theorem dmX13_twoCome_69 : decode cX13_twoCome 69 = .ok (.iload 4, 2) := dw_at cX13_twoCome_k2 (p := 19) rfl (by decide +kernel)
theorem dmX13_twoCome_71 : decode cX13_twoCome 71 = .ok (.invokevirtual 509, 3) := dw_at cX13_twoCome_k2 (p := 21) rfl (by decide +kernel)
theorem dmX13_twoCome_74 : decode cX13_twoCome 74 = .ok (.iinc 4 1, 3) := dw_at cX13_twoCome_k3 (p := 0) rfl (by decide +kernel)
theorem dmX13_twoCome_77 : decode cX13_twoCome 77 = .ok (.goto (-44), 3) := dw_at cX13_twoCome_k3 (p := 3) rfl (by decide +kernel)
theorem dmX13_twoCome_80 : decode cX13_twoCome 80 = .ok (.iinc 3 1, 3) := dw_at cX13_twoCome_k3 (p := 6) rfl (by decide +kernel)
theorem dmX13_twoCome_83 : decode cX13_twoCome 83 = .ok (.goto (-66), 3) := dw_at cX13_twoCome_k3 (p := 9) rfl (by decide +kernel)
theorem dmX13_twoCome_86 : decode cX13_twoCome 86 = .ok (.iinc 2 1, 3) := dw_at cX13_twoCome_k3 (p := 12) rfl (by decide +kernel)
theorem dmX13_twoCome_89 : decode cX13_twoCome 89 = .ok (.goto (-87), 3) := dw_at cX13_twoCome_k3 (p := 15) rfl (by decide +kernel)
theorem dmX13_twoCome_92 : decode cX13_twoCome 92 = .ok (.return_, 1) := dw_at cX13_twoCome_k3 (p := 18) rfl (by decide +kernel)
def qm_X13_twoCome_0 (K : Nat) (go : Nat → Int32 → Int32 → Int32 → Nat → Int32 → Int32 → ow_MS → Option ow_MS) (x2 : Int32) (x3 : Int32) (x4 : Int32) (r1 : Nat) (t0 : Int32) (t1 : Int32) (z : ow_MS) : Option ow_MS :=
 go 1 0 0 0 r1 0 0 z
def qm_X13_twoCome_1 (K : Nat) (go : Nat → Int32 → Int32 → Int32 → Nat → Int32 → Int32 → ow_MS → Option ow_MS) (x2 : Int32) (x3 : Int32) (x4 : Int32) (r1 : Nat) (t0 : Int32) (t1 : Int32) (z : ow_MS) : Option ow_MS :=
 rdF z (r1 + 1) fun v1 => rdF z (r1 + 2) fun v2 => (if (v1 + v2) ≤ x2 then some z
 else go 2 x2 0 0 r1 0 0 z)
def qm_X13_twoCome_2 (K : Nat) (go : Nat → Int32 → Int32 → Int32 → Nat → Int32 → Int32 → ow_MS → Option ow_MS) (x2 : Int32) (x3 : Int32) (x4 : Int32) (r1 : Nat) (t0 : Int32) (t1 : Int32) (z : ow_MS) : Option ow_MS :=
 rdF z (r1 + 1) fun v3 => rdF z (r1 + 2) fun v4 => (if (v3 + v4) ≤ x3 then go 1 (x2 + 1) 0 0 r1 0 0 z
 else go 3 x2 x3 0 r1 0 0 z)
def qm_X13_twoCome_3 (K : Nat) (go : Nat → Int32 → Int32 → Int32 → Nat → Int32 → Int32 → ow_MS → Option ow_MS) (x2 : Int32) (x3 : Int32) (x4 : Int32) (r1 : Nat) (t0 : Int32) (t1 : Int32) (z : ow_MS) : Option ow_MS :=
 (if x2 = x3 then go 4 x2 x3 x4 r1 8 x4 z
 else go 4 x2 x3 x4 r1 4 x4 z)
def qm_X13_twoCome_4 (K : Nat) (go : Nat → Int32 → Int32 → Int32 → Nat → Int32 → Int32 → ow_MS → Option ow_MS) (x2 : Int32) (x3 : Int32) (x4 : Int32) (r1 : Nat) (t0 : Int32) (t1 : Int32) (z : ow_MS) : Option ow_MS :=
 (if t0 ≤ t1 then go 5 x2 x3 x4 r1 0 0 z
 else cs1 (qe_X13_isGap K r1 x2 z) fun v6 z5 => (if v6 = 0 then go 5 x2 x3 x4 r1 0 0 z5
 else cs1 (qe_X13_isGap K r1 x3 z5) fun v8 z7 => (if v8 = 0 then go 5 x2 x3 x4 r1 0 0 z7
 else cs0 (qe_X13_twoAt K r1 x2 x3 x4 z7) fun z9 => go 3 x2 x3 (x4 + 1) r1 0 0 z9)))
def qm_X13_twoCome_5 (K : Nat) (go : Nat → Int32 → Int32 → Int32 → Nat → Int32 → Int32 → ow_MS → Option ow_MS) (x2 : Int32) (x3 : Int32) (x4 : Int32) (r1 : Nat) (t0 : Int32) (t1 : Int32) (z : ow_MS) : Option ow_MS :=
 go 2 x2 (x3 + 1) 0 r1 0 0 z
def qb_X13_twoCome (K : Nat) (go : Nat → Int32 → Int32 → Int32 → Nat → Int32 → Int32 → ow_MS → Option ow_MS) (L : Nat) (x2 : Int32) (x3 : Int32) (x4 : Int32) (r1 : Nat) (t0 : Int32) (t1 : Int32) (z : ow_MS) : Option ow_MS := match L with
  | 0 => qm_X13_twoCome_0 K go x2 x3 x4 r1 t0 t1 z
  | 1 => qm_X13_twoCome_1 K go x2 x3 x4 r1 t0 t1 z
  | 2 => qm_X13_twoCome_2 K go x2 x3 x4 r1 t0 t1 z
  | 3 => qm_X13_twoCome_3 K go x2 x3 x4 r1 t0 t1 z
  | 4 => qm_X13_twoCome_4 K go x2 x3 x4 r1 t0 t1 z
  | 5 => qm_X13_twoCome_5 K go x2 x3 x4 r1 t0 t1 z
  | _ => none
def q_X13_twoCome (K : Nat) : Nat → Nat → Int32 → Int32 → Int32 → Nat → Int32 → Int32 → ow_MS → Option ow_MS
  | 0 => fun _ _ _ _ _ _ _ _ => none
  | k + 1 => qb_X13_twoCome K (q_X13_twoCome K k)
def qe_X13_twoCome (K : Nat) (r1 : Nat) (z : ow_MS) : Option ow_MS := q_X13_twoCome K K 0 0 0 0 r1 0 0 z
abbrev wm_X13_twoCome : List Cond := .code yX13_twoCome cX13_twoCome 5 none :: wM
theorem cd_X13_twoCome : yX13_twoCome.cls = RX13 ∧ yX13_twoCome.cls ≠ "java/lang/invoke/MethodHandle" ∧ yX13_twoCome.cls ≠ "java/lang/invoke/VarHandle" ∧ (parseMethodDescriptor yX13_twoCome.desc).map (fun d => d.parameters.length) = some 1 := by decide +kernel
set_option maxHeartbeats 4000000 in
set_option maxRecDepth 100000 in
theorem km_X13_twoCome (l : Launch) (D : va_G) (q : ow_Q5) (u : Nat → Nat) (hU : tw_inj mX u) (K : Nat) (r1 : Nat) (hr1 : mw_net r1) (z z1 : ow_MS) (hq : qe_X13_twoCome K r1 z = some z1) : Met l yX13_twoCome wm_X13_twoCome ({ frames := 6, cells := 0, slots := 0, locals := 161 } : Room) (va_Pc [.ref (u 0), .ref (u r1)] (mw_pre D q u z)) (va_Qv (fun (_ : Unit) => True) (fun _ t => va_P D vwCl (tw mX q u z1) t.heap) (tw_A mX u)) 0 0 (tw_A mX u) := by
  refine Met.ofW (cc := cX13_twoCome) (maxL := 5) (ret := none) (by decide) rfl ?_
  intro p e s m args below meth c s₁ B hml hv
  obtain ⟨rfl, hP, hK, hN⟩ := hv
  have hx := B.exec
  have hb := B.bytes
  have hr := B.returns
  have hts := atoms_spec (ws := wm_X13_twoCome) B.pre
  have hT : ∀ w ∈ wM, w.before ([.ref (u 0), .ref (u r1)] : List Value).toArray s = true := fun w h => hts w (List.mem_cons_of_mem _ h)
  have hown : s.vm.findClass RX13 = some m.cls := findClass_of_methodNamed B.named
  have hlocks := B.notSynchronized
  have hM : tw_M D vwCl mX q s.heap u z s.heap [] := ⟨hP, va_S.rf⟩
  have hl := lv_entry ([.ref (u 0), .ref (u r1)]) (n := 5) (Nat.le_of_ble_eq_true rfl)
  rw [lg_entry_eq]
  generalize (lg_sl ([.ref (u 0), .ref (u r1)]) ++ List.replicate (5 - (lg_sl ([.ref (u 0), .ref (u r1)])).length) Slot.unset).toArray = ls at hl ⊢
  have hl : lv_has ls 5 [(0, .ref (u 0)), (1, .ref (u r1))] := hl
  refine ow_named (fun QQ hQQ => ?_)
  generalize ([.ref (u 0), .ref (u r1)] : List Value).toArray = args at hts hT hQQ ⊢
  have key : ∀ k : Nat, (∀ (x2 : Int32) (x3 : Int32) (x4 : Int32) (r1 : Nat) (t0 : Int32) (t1 : Int32) (z : ow_MS) (H : Heap) (locs : List Loc) (ls : Array Slot), mw_net r1 → tw_M D vwCl mX q s.heap u z H locs → lv_has ls 5 [(0, .ref (u 0)), (1, .ref (u r1))] → q_X13_twoCome K k 0 x2 x3 x4 r1 t0 t1 z = some z1 → W p l e ({ frames := 6, cells := 0, slots := 0, locals := 161 } : Room) s m args below meth c H locs 0 0 QQ (F0 m 0 ls [])) ∧ (∀ (x2 : Int32) (x3 : Int32) (x4 : Int32) (r1 : Nat) (t0 : Int32) (t1 : Int32) (z : ow_MS) (H : Heap) (locs : List Loc) (ls : Array Slot), mw_net r1 → tw_M D vwCl mX q s.heap u z H locs → lv_has ls 5 [(0, .ref (u 0)), (1, .ref (u r1)), (2, .int x2)] → q_X13_twoCome K k 1 x2 x3 x4 r1 t0 t1 z = some z1 → W p l e ({ frames := 6, cells := 0, slots := 0, locals := 161 } : Room) s m args below meth c H locs 0 0 QQ (F0 m 2 ls [])) ∧ (∀ (x2 : Int32) (x3 : Int32) (x4 : Int32) (r1 : Nat) (t0 : Int32) (t1 : Int32) (z : ow_MS) (H : Heap) (locs : List Loc) (ls : Array Slot), mw_net r1 → tw_M D vwCl mX q s.heap u z H locs → lv_has ls 5 [(0, .ref (u 0)), (1, .ref (u r1)), (2, .int x2), (3, .int x3)] → q_X13_twoCome K k 2 x2 x3 x4 r1 t0 t1 z = some z1 → W p l e ({ frames := 6, cells := 0, slots := 0, locals := 161 } : Room) s m args below meth c H locs 0 0 QQ (F0 m 17 ls [])) ∧ (∀ (x2 : Int32) (x3 : Int32) (x4 : Int32) (r1 : Nat) (t0 : Int32) (t1 : Int32) (z : ow_MS) (H : Heap) (locs : List Loc) (ls : Array Slot), mw_net r1 → tw_M D vwCl mX q s.heap u z H locs → lv_has ls 5 [(0, .ref (u 0)), (1, .ref (u r1)), (2, .int x2), (3, .int x3), (4, .int x4)] → q_X13_twoCome K k 3 x2 x3 x4 r1 t0 t1 z = some z1 → W p l e ({ frames := 6, cells := 0, slots := 0, locals := 161 } : Room) s m args below meth c H locs 0 0 QQ (F0 m 33 ls [])) ∧ (∀ (x2 : Int32) (x3 : Int32) (x4 : Int32) (r1 : Nat) (t0 : Int32) (t1 : Int32) (z : ow_MS) (H : Heap) (locs : List Loc) (ls : Array Slot), mw_net r1 → tw_M D vwCl mX q s.heap u z H locs → lv_has ls 5 [(0, .ref (u 0)), (1, .ref (u r1)), (2, .int x2), (3, .int x3), (4, .int x4)] → q_X13_twoCome K k 4 x2 x3 x4 r1 t0 t1 z = some z1 → W p l e ({ frames := 6, cells := 0, slots := 0, locals := 161 } : Room) s m args below meth c H locs 0 0 QQ (F0 m 46 ls [.int t0, .int t1])) ∧ (∀ (x2 : Int32) (x3 : Int32) (x4 : Int32) (r1 : Nat) (t0 : Int32) (t1 : Int32) (z : ow_MS) (H : Heap) (locs : List Loc) (ls : Array Slot), mw_net r1 → tw_M D vwCl mX q s.heap u z H locs → lv_has ls 5 [(0, .ref (u 0)), (1, .ref (u r1)), (2, .int x2), (3, .int x3), (4, .int x4)] → q_X13_twoCome K k 5 x2 x3 x4 r1 t0 t1 z = some z1 → W p l e ({ frames := 6, cells := 0, slots := 0, locals := 161 } : Room) s m args below meth c H locs 0 0 QQ (F0 m 80 ls [])) := by
    intro k
    induction k with
    | zero => exact ⟨fun _ _ _ _ _ _ _ _ _ _ _ _ _ hq => tw_no hq, fun _ _ _ _ _ _ _ _ _ _ _ _ _ hq => tw_no hq, fun _ _ _ _ _ _ _ _ _ _ _ _ _ hq => tw_no hq, fun _ _ _ _ _ _ _ _ _ _ _ _ _ hq => tw_no hq, fun _ _ _ _ _ _ _ _ _ _ _ _ _ hq => tw_no hq, fun _ _ _ _ _ _ _ _ _ _ _ _ _ hq => tw_no hq⟩
    | succ k ih =>
      obtain ⟨ih_0, ih_1, ih_2, ih_3, ih_4, ih_5⟩ := ih
      refine ⟨?_, ?_, ?_, ?_, ?_, ?_⟩
      · intro x2 x3 x4 r1 t0 t1 z H locs ls hr1 hM hl hq
        have hq : qm_X13_twoCome_0 K (q_X13_twoCome K k) x2 x3 x4 r1 t0 t1 z = some z1 := hq
        unfold qm_X13_twoCome_0 at hq
        refine lv_iconst (v := 0) hx hb dmX13_twoCome_0 (by decide) ?_
        refine lv_istore_n (lv' := [(2, .int 0), (0, .ref (u 0)), (1, .ref (u r1))]) hx hb dmX13_twoCome_1 rfl hl (by decide) rfl (fun ls hl => ?_)
        exact ih_1 0 0 0 r1 0 0 z H locs ls hr1 hM (lv_sub hl [1, 2, 0] rfl) hq
      · intro x2 x3 x4 r1 t0 t1 z H locs ls hr1 hM hl hq
        have hq : qm_X13_twoCome_1 K (q_X13_twoCome K k) x2 x3 x4 r1 t0 t1 z = some z1 := hq
        unfold qm_X13_twoCome_1 at hq
        refine lv_iload_n hx hb dmX13_twoCome_2 rfl (lv_at hl 2 rfl) ?_
        refine lv_aload_n hx hb dmX13_twoCome_3 rfl (lv_at hl 1 rfl) ?_
        refine mg13_44 hx hb hT hown hK hM hN hr1 hq dmX13_twoCome_4 (fun v1 hq => ?_)
        refine lv_aload_n hx hb dmX13_twoCome_7 rfl (lv_at hl 1 rfl) ?_
        refine mg13_407 hx hb hT hown hK hM hN hr1 hq dmX13_twoCome_8 (fun v2 hq => ?_)
        refine lv_iadd hx hb dmX13_twoCome_11 ?_
        refine lv_icmp_ge (tgt := 92) hx hb dmX13_twoCome_12 (by decide) (fun hc => ?_) (fun hc => ?_)
        · have hq := tw_it hq hc
          exact mw_vret hx hb hr hlocks hM hq hQQ dmX13_twoCome_92
        · have hq := tw_if hq hc
          refine lv_iconst (v := 0) hx hb dmX13_twoCome_15 (by decide) ?_
          refine lv_istore_n (lv' := [(3, .int 0), (0, .ref (u 0)), (1, .ref (u r1)), (2, .int x2)]) hx hb dmX13_twoCome_16 rfl hl (by decide) rfl (fun ls hl => ?_)
          exact ih_2 x2 0 0 r1 0 0 z H locs ls hr1 hM (lv_sub hl [1, 2, 3, 0] rfl) hq
      · intro x2 x3 x4 r1 t0 t1 z H locs ls hr1 hM hl hq
        have hq : qm_X13_twoCome_2 K (q_X13_twoCome K k) x2 x3 x4 r1 t0 t1 z = some z1 := hq
        unfold qm_X13_twoCome_2 at hq
        refine lv_iload_n hx hb dmX13_twoCome_17 rfl (lv_at hl 3 rfl) ?_
        refine lv_aload_n hx hb dmX13_twoCome_18 rfl (lv_at hl 1 rfl) ?_
        refine mg13_44 hx hb hT hown hK hM hN hr1 hq dmX13_twoCome_19 (fun v3 hq => ?_)
        refine lv_aload_n hx hb dmX13_twoCome_22 rfl (lv_at hl 1 rfl) ?_
        refine mg13_407 hx hb hT hown hK hM hN hr1 hq dmX13_twoCome_23 (fun v4 hq => ?_)
        refine lv_iadd hx hb dmX13_twoCome_26 ?_
        refine lv_icmp_ge (tgt := 86) hx hb dmX13_twoCome_27 (by decide) (fun hc => ?_) (fun hc => ?_)
        · have hq := tw_it hq hc
          refine lv_iinc (v := (x2 + 1)) (lv' := [(2, .int (x2 + 1)), (0, .ref (u 0)), (1, .ref (u r1)), (3, .int x3)]) hx hb dmX13_twoCome_86 hl (k := 2) rfl rfl (by decide) rfl (fun ls hl => ?_)
          refine lv_goto (tgt := 2) hx hb dmX13_twoCome_89 (by decide) ?_
          exact ih_1 (x2 + 1) 0 0 r1 0 0 z H locs ls hr1 hM (lv_sub hl [1, 2, 0] rfl) hq
        · have hq := tw_if hq hc
          refine lv_iconst (v := 0) hx hb dmX13_twoCome_30 (by decide) ?_
          refine lv_istore (lv' := [(4, .int 0), (0, .ref (u 0)), (1, .ref (u r1)), (2, .int x2), (3, .int x3)]) hx hb dmX13_twoCome_31 hl (by decide) rfl (fun ls hl => ?_)
          exact ih_3 x2 x3 0 r1 0 0 z H locs ls hr1 hM (lv_sub hl [1, 2, 3, 4, 0] rfl) hq
      · intro x2 x3 x4 r1 t0 t1 z H locs ls hr1 hM hl hq
        have hq : qm_X13_twoCome_3 K (q_X13_twoCome K k) x2 x3 x4 r1 t0 t1 z = some z1 := hq
        unfold qm_X13_twoCome_3 at hq
        refine lv_iload hx hb dmX13_twoCome_33 (lv_at hl 4 rfl) ?_
        refine lv_iload_n hx hb dmX13_twoCome_35 rfl (lv_at hl 2 rfl) ?_
        refine lv_iload_n hx hb dmX13_twoCome_36 rfl (lv_at hl 3 rfl) ?_
        refine lv_icmp_ne (tgt := 45) hx hb dmX13_twoCome_37 (by decide) (fun hc => ?_) (fun hc => ?_)
        · have hq := tw_if hq hc
          refine lv_iconst (v := 4) hx hb dmX13_twoCome_45 (by decide) ?_
          exact ih_4 x2 x3 x4 r1 4 x4 z H locs ls hr1 hM (lv_sub hl [0, 1, 2, 3, 4] rfl) hq
        · have hq := tw_it hq hc
          refine lv_bipush (v := 8) hx hb dmX13_twoCome_40 (by decide) ?_
          refine lv_goto (tgt := 46) hx hb dmX13_twoCome_42 (by decide) ?_
          exact ih_4 x2 x3 x4 r1 8 x4 z H locs ls hr1 hM (lv_sub hl [0, 1, 2, 3, 4] rfl) hq
      · intro x2 x3 x4 r1 t0 t1 z H locs ls hr1 hM hl hq
        have hq : qm_X13_twoCome_4 K (q_X13_twoCome K k) x2 x3 x4 r1 t0 t1 z = some z1 := hq
        unfold qm_X13_twoCome_4 at hq
        refine lv_icmp_ge (tgt := 80) hx hb dmX13_twoCome_46 (by decide) (fun hc => ?_) (fun hc => ?_)
        · have hq := tw_it hq hc
          exact ih_5 x2 x3 x4 r1 0 0 z H locs ls hr1 hM (lv_sub hl [0, 1, 2, 3, 4] rfl) hq
        · have hq := tw_if hq hc
          refine lv_aload_n hx hb dmX13_twoCome_49 rfl (lv_at hl 1 rfl) ?_
          refine lv_iload_n hx hb dmX13_twoCome_50 rfl (lv_at hl 2 rfl) ?_
          obtain ⟨v6, z5, hcq, hq⟩ := tw_cl1 hq
          refine tw_cali hM (va_runS (As := [.ref (u r1), .int x2]) (rest := []) ⟨hx, hb, hml, hown, hts⟩ (km_X13_isGap l D q u hU K r1 x2 hr1 z z5 v6 hcq) (va_cwS 2 hts (tw_gS wM_good wq_205 wq_206 wq_61 wq_204) rfl rfl rfl cd_X13_isGap ⟨(Nat.le_of_ble_eq_true rfl), (Nat.le_of_ble_eq_true rfl)⟩) (mw_preS hK hN hM) rfl rfl hl.1 rfl (lv_room (Nat.le_of_ble_eq_true rfl)) dmX13_twoCome_51 ⟨(Nat.le_of_ble_eq_true rfl), (Nat.le_of_ble_eq_true rfl)⟩) (fun H locs hM => ?_)
          refine lv_if_eq (tgt := 80) hx hb dmX13_twoCome_54 (by decide) (fun hc => ?_) (fun hc => ?_)
          · have hq := tw_it hq hc
            exact ih_5 x2 x3 x4 r1 0 0 z5 H locs ls hr1 hM (lv_sub hl [0, 1, 2, 3, 4] rfl) hq
          · have hq := tw_if hq hc
            refine lv_aload_n hx hb dmX13_twoCome_57 rfl (lv_at hl 1 rfl) ?_
            refine lv_iload_n hx hb dmX13_twoCome_58 rfl (lv_at hl 3 rfl) ?_
            obtain ⟨v8, z7, hcq, hq⟩ := tw_cl1 hq
            refine tw_cali hM (va_runS (As := [.ref (u r1), .int x3]) (rest := []) ⟨hx, hb, hml, hown, hts⟩ (km_X13_isGap l D q u hU K r1 x3 hr1 z5 z7 v8 hcq) (va_cwS 2 hts (tw_gS wM_good wq_205 wq_206 wq_61 wq_204) rfl rfl rfl cd_X13_isGap ⟨(Nat.le_of_ble_eq_true rfl), (Nat.le_of_ble_eq_true rfl)⟩) (mw_preS hK hN hM) rfl rfl hl.1 rfl (lv_room (Nat.le_of_ble_eq_true rfl)) dmX13_twoCome_59 ⟨(Nat.le_of_ble_eq_true rfl), (Nat.le_of_ble_eq_true rfl)⟩) (fun H locs hM => ?_)
            refine lv_if_eq (tgt := 80) hx hb dmX13_twoCome_62 (by decide) (fun hc => ?_) (fun hc => ?_)
            · have hq := tw_it hq hc
              exact ih_5 x2 x3 x4 r1 0 0 z7 H locs ls hr1 hM (lv_sub hl [0, 1, 2, 3, 4] rfl) hq
            · have hq := tw_if hq hc
              refine lv_aload_n hx hb dmX13_twoCome_65 rfl (lv_at hl 0 rfl) ?_
              refine lv_aload_n hx hb dmX13_twoCome_66 rfl (lv_at hl 1 rfl) ?_
              refine lv_iload_n hx hb dmX13_twoCome_67 rfl (lv_at hl 2 rfl) ?_
              refine lv_iload_n hx hb dmX13_twoCome_68 rfl (lv_at hl 3 rfl) ?_
              refine lv_iload hx hb dmX13_twoCome_69 (lv_at hl 4 rfl) ?_
              obtain ⟨z9, hcq, hq⟩ := tw_cl0 hq
              refine tw_calv hM (va_runV (As := [.ref (u r1), .int x2, .int x3, .int x4]) (rest := []) ⟨hx, hb, hml, hown, hts⟩ (km_X13_twoAt l D q u hU K r1 x2 x3 x4 hr1 z7 z9 hcq) (cwV 4 hts (tw_gV wM_good wq_215 wq_216 wq_217 wq_61 wq_214) rfl rfl rfl cd_X13_twoAt ⟨(Nat.le_of_ble_eq_true rfl), (Nat.le_of_ble_eq_true rfl)⟩) (mw_preV hK hN hM mo_0 rfl) rfl rfl hl.1 rfl (lv_room (Nat.le_of_ble_eq_true rfl)) dmX13_twoCome_71 ⟨(Nat.le_of_ble_eq_true rfl), (Nat.le_of_ble_eq_true rfl)⟩) (fun H locs hM => ?_)
              refine lv_iinc (v := (x4 + 1)) (lv' := [(4, .int (x4 + 1)), (0, .ref (u 0)), (1, .ref (u r1)), (2, .int x2), (3, .int x3)]) hx hb dmX13_twoCome_74 hl (k := 4) rfl rfl (by decide) rfl (fun ls hl => ?_)
              refine lv_goto (tgt := 33) hx hb dmX13_twoCome_77 (by decide) ?_
              exact ih_3 x2 x3 (x4 + 1) r1 0 0 z9 H locs ls hr1 hM (lv_sub hl [1, 2, 3, 4, 0] rfl) hq
      · intro x2 x3 x4 r1 t0 t1 z H locs ls hr1 hM hl hq
        have hq : qm_X13_twoCome_5 K (q_X13_twoCome K k) x2 x3 x4 r1 t0 t1 z = some z1 := hq
        unfold qm_X13_twoCome_5 at hq
        refine lv_iinc (v := (x3 + 1)) (lv' := [(3, .int (x3 + 1)), (0, .ref (u 0)), (1, .ref (u r1)), (2, .int x2), (4, .int x4)]) hx hb dmX13_twoCome_80 hl (k := 3) rfl rfl (by decide) rfl (fun ls hl => ?_)
        refine lv_goto (tgt := 17) hx hb dmX13_twoCome_83 (by decide) ?_
        exact ih_2 x2 (x3 + 1) 0 r1 0 0 z H locs ls hr1 hM (lv_sub hl [1, 2, 3, 0] rfl) hq
  exact (key K).1 0 0 0 r1 0 0 z s.heap [] ls hr1 hM (lv_sub hl [0, 1] rfl) hq
theorem dmX13_twoGo_0 : decode cX13_twoGo 0 = .ok (.iconst 0, 1) := dw_at cX13_twoGo_k0 (p := 0) rfl (by decide +kernel)
theorem dmX13_twoGo_1 : decode cX13_twoGo 1 = .ok (.istore_n 2, 1) := dw_at cX13_twoGo_k0 (p := 1) rfl (by decide +kernel)
theorem dmX13_twoGo_2 : decode cX13_twoGo 2 = .ok (.iload_n 2, 1) := dw_at cX13_twoGo_k0 (p := 2) rfl (by decide +kernel)
theorem dmX13_twoGo_3 : decode cX13_twoGo 3 = .ok (.aload_n 1, 1) := dw_at cX13_twoGo_k0 (p := 3) rfl (by decide +kernel)
theorem dmX13_twoGo_4 : decode cX13_twoGo 4 = .ok (.getfield 44, 3) := dw_at cX13_twoGo_k0 (p := 4) rfl (by decide +kernel)
theorem dmX13_twoGo_7 : decode cX13_twoGo 7 = .ok (.if_icmp .ge 131, 3) := dw_at cX13_twoGo_k0 (p := 7) rfl (by decide +kernel)
theorem dmX13_twoGo_10 : decode cX13_twoGo 10 = .ok (.aload_n 1, 1) := dw_at cX13_twoGo_k0 (p := 10) rfl (by decide +kernel)
theorem dmX13_twoGo_11 : decode cX13_twoGo 11 = .ok (.getfield 38, 3) := dw_at cX13_twoGo_k0 (p := 11) rfl (by decide +kernel)
theorem dmX13_twoGo_14 : decode cX13_twoGo 14 = .ok (.iload_n 2, 1) := dw_at cX13_twoGo_k0 (p := 14) rfl (by decide +kernel)
theorem dmX13_twoGo_15 : decode cX13_twoGo 15 = .ok (.iaload, 1) := dw_at cX13_twoGo_k0 (p := 15) rfl (by decide +kernel)
theorem dmX13_twoGo_16 : decode cX13_twoGo 16 = .ok (.istore_n 3, 1) := dw_at cX13_twoGo_k0 (p := 16) rfl (by decide +kernel)
theorem dmX13_twoGo_17 : decode cX13_twoGo 17 = .ok (.aload_n 1, 1) := dw_at cX13_twoGo_k0 (p := 17) rfl (by decide +kernel)
theorem dmX13_twoGo_18 : decode cX13_twoGo 18 = .ok (.getfield 32, 3) := dw_at cX13_twoGo_k0 (p := 18) rfl (by decide +kernel)
theorem dmX13_twoGo_21 : decode cX13_twoGo 21 = .ok (.iload_n 2, 1) := dw_at cX13_twoGo_k0 (p := 21) rfl (by decide +kernel)
theorem dmX13_twoGo_22 : decode cX13_twoGo 22 = .ok (.iaload, 1) := dw_at cX13_twoGo_k0 (p := 22) rfl (by decide +kernel)
theorem dmX13_twoGo_23 : decode cX13_twoGo 23 = .ok (.ifCond .ne 109, 3) := dw_at cX13_twoGo_k0 (p := 23) rfl (by decide +kernel)
theorem dmX13_twoGo_26 : decode cX13_twoGo 26 = .ok (.aload_n 1, 1) := dw_at cX13_twoGo_k1 (p := 0) rfl (by decide +kernel)
theorem dmX13_twoGo_27 : decode cX13_twoGo 27 = .ok (.getfield 32, 3) := dw_at cX13_twoGo_k1 (p := 1) rfl (by decide +kernel)
theorem dmX13_twoGo_30 : decode cX13_twoGo 30 = .ok (.iload_n 3, 1) := dw_at cX13_twoGo_k1 (p := 4) rfl (by decide +kernel)
theorem dmX13_twoGo_31 : decode cX13_twoGo 31 = .ok (.iaload, 1) := dw_at cX13_twoGo_k1 (p := 5) rfl (by decide +kernel)
theorem dmX13_twoGo_32 : decode cX13_twoGo 32 = .ok (.ifCond .ne 100, 3) := dw_at cX13_twoGo_k1 (p := 6) rfl (by decide +kernel)
theorem dmX13_twoGo_35 : decode cX13_twoGo 35 = .ok (.aload_n 1, 1) := dw_at cX13_twoGo_k1 (p := 9) rfl (by decide +kernel)
theorem dmX13_twoGo_36 : decode cX13_twoGo 36 = .ok (.getfield 23, 3) := dw_at cX13_twoGo_k1 (p := 10) rfl (by decide +kernel)
theorem dmX13_twoGo_39 : decode cX13_twoGo 39 = .ok (.iload_n 2, 1) := dw_at cX13_twoGo_k1 (p := 13) rfl (by decide +kernel)
theorem dmX13_twoGo_40 : decode cX13_twoGo 40 = .ok (.iaload, 1) := dw_at cX13_twoGo_k1 (p := 14) rfl (by decide +kernel)
theorem dmX13_twoGo_41 : decode cX13_twoGo 41 = .ok (.aload_n 1, 1) := dw_at cX13_twoGo_k1 (p := 15) rfl (by decide +kernel)
theorem dmX13_twoGo_42 : decode cX13_twoGo 42 = .ok (.getfield 23, 3) := dw_at cX13_twoGo_k1 (p := 16) rfl (by decide +kernel)
theorem dmX13_twoGo_45 : decode cX13_twoGo 45 = .ok (.iload_n 3, 1) := dw_at cX13_twoGo_k1 (p := 19) rfl (by decide +kernel)
theorem dmX13_twoGo_46 : decode cX13_twoGo 46 = .ok (.iaload, 1) := dw_at cX13_twoGo_k1 (p := 20) rfl (by decide +kernel)
theorem dmX13_twoGo_47 : decode cX13_twoGo 47 = .ok (.if_icmp .eq 85, 3) := dw_at cX13_twoGo_k1 (p := 21) rfl (by decide +kernel)
theorem dmX13_twoGo_50 : decode cX13_twoGo 50 = .ok (.aload_n 1, 1) := dw_at cX13_twoGo_k2 (p := 0) rfl (by decide +kernel)
theorem dmX13_twoGo_51 : decode cX13_twoGo 51 = .ok (.getfield 35, 3) := dw_at cX13_twoGo_k2 (p := 1) rfl (by decide +kernel)
theorem dmX13_twoGo_54 : decode cX13_twoGo 54 = .ok (.aload_n 1, 1) := dw_at cX13_twoGo_k2 (p := 4) rfl (by decide +kernel)
theorem dmX13_twoGo_55 : decode cX13_twoGo 55 = .ok (.getfield 23, 3) := dw_at cX13_twoGo_k2 (p := 5) rfl (by decide +kernel)
theorem dmX13_twoGo_58 : decode cX13_twoGo 58 = .ok (.iload_n 2, 1) := dw_at cX13_twoGo_k2 (p := 8) rfl (by decide +kernel)
theorem dmX13_twoGo_59 : decode cX13_twoGo 59 = .ok (.iaload, 1) := dw_at cX13_twoGo_k2 (p := 9) rfl (by decide +kernel)
theorem dmX13_twoGo_60 : decode cX13_twoGo 60 = .ok (.iaload, 1) := dw_at cX13_twoGo_k2 (p := 10) rfl (by decide +kernel)
theorem dmX13_twoGo_61 : decode cX13_twoGo 61 = .ok (.aload_n 1, 1) := dw_at cX13_twoGo_k2 (p := 11) rfl (by decide +kernel)
theorem dmX13_twoGo_62 : decode cX13_twoGo 62 = .ok (.getfield 35, 3) := dw_at cX13_twoGo_k2 (p := 12) rfl (by decide +kernel)
theorem dmX13_twoGo_65 : decode cX13_twoGo 65 = .ok (.aload_n 1, 1) := dw_at cX13_twoGo_k2 (p := 15) rfl (by decide +kernel)
theorem dmX13_twoGo_66 : decode cX13_twoGo 66 = .ok (.getfield 23, 3) := dw_at cX13_twoGo_k2 (p := 16) rfl (by decide +kernel)
theorem dmX13_twoGo_69 : decode cX13_twoGo 69 = .ok (.iload_n 3, 1) := dw_at cX13_twoGo_k2 (p := 19) rfl (by decide +kernel)
theorem dmX13_twoGo_70 : decode cX13_twoGo 70 = .ok (.iaload, 1) := dw_at cX13_twoGo_k2 (p := 20) rfl (by decide +kernel)
theorem dmX13_twoGo_71 : decode cX13_twoGo 71 = .ok (.iaload, 1) := dw_at cX13_twoGo_k2 (p := 21) rfl (by decide +kernel)
theorem dmX13_twoGo_72 : decode cX13_twoGo 72 = .ok (.if_icmp .eq 60, 3) := dw_at cX13_twoGo_k2 (p := 22) rfl (by decide +kernel)
theorem dmX13_twoGo_75 : decode cX13_twoGo 75 = .ok (.aload_n 1, 1) := dw_at cX13_twoGo_k3 (p := 0) rfl (by decide +kernel)
theorem dmX13_twoGo_76 : decode cX13_twoGo 76 = .ok (.getfield 41, 3) := dw_at cX13_twoGo_k3 (p := 1) rfl (by decide +kernel)
theorem dmX13_twoGo_79 : decode cX13_twoGo 79 = .ok (.iload_n 2, 1) := dw_at cX13_twoGo_k3 (p := 4) rfl (by decide +kernel)
theorem dmX13_twoGo_80 : decode cX13_twoGo 80 = .ok (.iaload, 1) := dw_at cX13_twoGo_k3 (p := 5) rfl (by decide +kernel)
theorem dmX13_twoGo_81 : decode cX13_twoGo 81 = .ok (.istore 4, 2) := dw_at cX13_twoGo_k3 (p := 6) rfl (by decide +kernel)
theorem dmX13_twoGo_83 : decode cX13_twoGo 83 = .ok (.aload_n 1, 1) := dw_at cX13_twoGo_k3 (p := 8) rfl (by decide +kernel)
theorem dmX13_twoGo_84 : decode cX13_twoGo 84 = .ok (.getfield 41, 3) := dw_at cX13_twoGo_k3 (p := 9) rfl (by decide +kernel)
theorem dmX13_twoGo_87 : decode cX13_twoGo 87 = .ok (.iload_n 3, 1) := dw_at cX13_twoGo_k3 (p := 12) rfl (by decide +kernel)
theorem dmX13_twoGo_88 : decode cX13_twoGo 88 = .ok (.iaload, 1) := dw_at cX13_twoGo_k3 (p := 13) rfl (by decide +kernel)
theorem dmX13_twoGo_89 : decode cX13_twoGo 89 = .ok (.istore 5, 2) := dw_at cX13_twoGo_k3 (p := 14) rfl (by decide +kernel)
theorem dmX13_twoGo_91 : decode cX13_twoGo 91 = .ok (.aload_n 1, 1) := dw_at cX13_twoGo_k3 (p := 16) rfl (by decide +kernel)
theorem dmX13_twoGo_92 : decode cX13_twoGo 92 = .ok (.getfield 38, 3) := dw_at cX13_twoGo_k3 (p := 17) rfl (by decide +kernel)
theorem dmX13_twoGo_95 : decode cX13_twoGo 95 = .ok (.iload 4, 2) := dw_at cX13_twoGo_k3 (p := 20) rfl (by decide +kernel)
theorem dmX13_twoGo_97 : decode cX13_twoGo 97 = .ok (.iaload, 1) := dw_at cX13_twoGo_k3 (p := 22) rfl (by decide +kernel)
theorem dmX13_twoGo_98 : decode cX13_twoGo 98 = .ok (.iload 5, 2) := dw_at cX13_twoGo_k3 (p := 23) rfl (by decide +kernel)
theorem dmX13_twoGo_100 : decode cX13_twoGo 100 = .ok (.if_icmp .eq 15, 3) := dw_at cX13_twoGo_k4 (p := 0) rfl (by decide +kernel)
theorem dmX13_twoGo_103 : decode cX13_twoGo 103 = .ok (.aload_n 1, 1) := dw_at cX13_twoGo_k4 (p := 3) rfl (by decide +kernel)
theorem dmX13_twoGo_104 : decode cX13_twoGo 104 = .ok (.getfield 38, 3) := dw_at cX13_twoGo_k4 (p := 4) rfl (by decide +kernel)
theorem dmX13_twoGo_107 : decode cX13_twoGo 107 = .ok (.iload 5, 2) := dw_at cX13_twoGo_k4 (p := 7) rfl (by decide +kernel)
theorem dmX13_twoGo_109 : decode cX13_twoGo 109 = .ok (.iaload, 1) := dw_at cX13_twoGo_k4 (p := 9) rfl (by decide +kernel)
theorem dmX13_twoGo_110 : decode cX13_twoGo 110 = .ok (.iload 4, 2) := dw_at cX13_twoGo_k4 (p := 10) rfl (by decide +kernel)
theorem dmX13_twoGo_112 : decode cX13_twoGo 112 = .ok (.if_icmp .ne 20, 3) := dw_at cX13_twoGo_k4 (p := 12) rfl (by decide +kernel)
theorem dmX13_twoGo_115 : decode cX13_twoGo 115 = .ok (.aload_n 0, 1) := dw_at cX13_twoGo_k4 (p := 15) rfl (by decide +kernel)
theorem dmX13_twoGo_116 : decode cX13_twoGo 116 = .ok (.aload_n 1, 1) := dw_at cX13_twoGo_k4 (p := 16) rfl (by decide +kernel)
theorem dmX13_twoGo_117 : decode cX13_twoGo 117 = .ok (.aload_n 1, 1) := dw_at cX13_twoGo_k4 (p := 17) rfl (by decide +kernel)
theorem dmX13_twoGo_118 : decode cX13_twoGo 118 = .ok (.getfield 23, 3) := dw_at cX13_twoGo_k4 (p := 18) rfl (by decide +kernel)
theorem dmX13_twoGo_121 : decode cX13_twoGo 121 = .ok (.iload_n 2, 1) := dw_at cX13_twoGo_k4 (p := 21) rfl (by decide +kernel)
theorem dmX13_twoGo_122 : decode cX13_twoGo 122 = .ok (.iaload, 1) := dw_at cX13_twoGo_k4 (p := 22) rfl (by decide +kernel)
theorem dmX13_twoGo_123 : decode cX13_twoGo 123 = .ok (.aload_n 1, 1) := dw_at cX13_twoGo_k4 (p := 23) rfl (by decide +kernel)
theorem dmX13_twoGo_124 : decode cX13_twoGo 124 = .ok (.getfield 23, 3) := dw_at cX13_twoGo_k5 (p := 0) rfl (by decide +kernel)
theorem dmX13_twoGo_127 : decode cX13_twoGo 127 = .ok (.iload_n 3, 1) := dw_at cX13_twoGo_k5 (p := 3) rfl (by decide +kernel)
theorem dmX13_twoGo_128 : decode cX13_twoGo 128 = .ok (.iaload, 1) := dw_at cX13_twoGo_k5 (p := 4) rfl (by decide +kernel)
theorem dmX13_twoGo_129 : decode cX13_twoGo 129 = .ok (.invokevirtual 513, 3) := dw_at cX13_twoGo_k5 (p := 5) rfl (by decide +kernel)
theorem dmX13_twoGo_132 : decode cX13_twoGo 132 = .ok (.iinc 2 1, 3) := dw_at cX13_twoGo_k5 (p := 8) rfl (by decide +kernel)
theorem dmX13_twoGo_135 : decode cX13_twoGo 135 = .ok (.goto (-133), 3) := dw_at cX13_twoGo_k5 (p := 11) rfl (by decide +kernel)
theorem dmX13_twoGo_138 : decode cX13_twoGo 138 = .ok (.return_, 1) := dw_at cX13_twoGo_k5 (p := 14) rfl (by decide +kernel)
def qm_X13_twoGo_0 (K : Nat) (go : Nat → Int32 → Int32 → Int32 → Int32 → Nat → ow_MS → Option ow_MS) (x2 : Int32) (x3 : Int32) (x4 : Int32) (x5 : Int32) (r1 : Nat) (z : ow_MS) : Option ow_MS :=
 go 1 0 0 0 0 r1 z
def qm_X13_twoGo_1 (K : Nat) (go : Nat → Int32 → Int32 → Int32 → Int32 → Nat → ow_MS → Option ow_MS) (x2 : Int32) (x3 : Int32) (x4 : Int32) (x5 : Int32) (r1 : Nat) (z : ow_MS) : Option ow_MS :=
 rdF z (r1 + 1) fun v1 => (if v1 ≤ x2 then some z
 else rdI mX z (r1 + 9) x2 fun v2 => rdI mX z (r1 + 5) x2 fun v3 => (if v3 = 0 then rdI mX z (r1 + 5) v2 fun v4 => (if v4 = 0 then rdI mX z (r1 + 4) x2 fun v5 => rdI mX z (r1 + 4) v2 fun v6 => (if v5 = v6 then go 3 x2 v2 0 0 r1 z
 else rdI mX z (r1 + 4) x2 fun v7 => rdI mX z (r1 + 6) v7 fun v8 => rdI mX z (r1 + 4) v2 fun v9 => rdI mX z (r1 + 6) v9 fun v10 => (if v8 = v10 then go 3 x2 v2 0 0 r1 z
 else rdI mX z (r1 + 7) x2 fun v11 => rdI mX z (r1 + 7) v2 fun v12 => rdI mX z (r1 + 9) v11 fun v13 => (if v13 = v12 then go 2 x2 v2 v11 v12 r1 z
 else rdI mX z (r1 + 9) v12 fun v14 => (if v14 = v11 then go 2 x2 v2 v11 v12 r1 z
 else go 3 x2 v2 0 0 r1 z))))
 else go 3 x2 v2 0 0 r1 z)
 else go 3 x2 v2 0 0 r1 z))
def qm_X13_twoGo_2 (K : Nat) (go : Nat → Int32 → Int32 → Int32 → Int32 → Nat → ow_MS → Option ow_MS) (x2 : Int32) (x3 : Int32) (x4 : Int32) (x5 : Int32) (r1 : Nat) (z : ow_MS) : Option ow_MS :=
 rdI mX z (r1 + 4) x2 fun v15 => rdI mX z (r1 + 4) x3 fun v16 => cs0 (qe_X13_without K r1 v15 v16 z) fun z17 => go 3 x2 x3 0 0 r1 z17
def qm_X13_twoGo_3 (K : Nat) (go : Nat → Int32 → Int32 → Int32 → Int32 → Nat → ow_MS → Option ow_MS) (x2 : Int32) (x3 : Int32) (x4 : Int32) (x5 : Int32) (r1 : Nat) (z : ow_MS) : Option ow_MS :=
 go 1 (x2 + 1) 0 0 0 r1 z
def qb_X13_twoGo (K : Nat) (go : Nat → Int32 → Int32 → Int32 → Int32 → Nat → ow_MS → Option ow_MS) (L : Nat) (x2 : Int32) (x3 : Int32) (x4 : Int32) (x5 : Int32) (r1 : Nat) (z : ow_MS) : Option ow_MS := match L with
  | 0 => qm_X13_twoGo_0 K go x2 x3 x4 x5 r1 z
  | 1 => qm_X13_twoGo_1 K go x2 x3 x4 x5 r1 z
  | 2 => qm_X13_twoGo_2 K go x2 x3 x4 x5 r1 z
  | 3 => qm_X13_twoGo_3 K go x2 x3 x4 x5 r1 z
  | _ => none
def q_X13_twoGo (K : Nat) : Nat → Nat → Int32 → Int32 → Int32 → Int32 → Nat → ow_MS → Option ow_MS
  | 0 => fun _ _ _ _ _ _ _ => none
  | k + 1 => qb_X13_twoGo K (q_X13_twoGo K k)
def qe_X13_twoGo (K : Nat) (r1 : Nat) (z : ow_MS) : Option ow_MS := q_X13_twoGo K K 0 0 0 0 0 r1 z
abbrev wm_X13_twoGo : List Cond := .code yX13_twoGo cX13_twoGo 6 none :: wM
theorem cd_X13_twoGo : yX13_twoGo.cls = RX13 ∧ yX13_twoGo.cls ≠ "java/lang/invoke/MethodHandle" ∧ yX13_twoGo.cls ≠ "java/lang/invoke/VarHandle" ∧ (parseMethodDescriptor yX13_twoGo.desc).map (fun d => d.parameters.length) = some 1 := by decide +kernel
set_option maxHeartbeats 4000000 in
set_option maxRecDepth 100000 in
theorem km_X13_twoGo (l : Launch) (D : va_G) (q : ow_Q5) (u : Nat → Nat) (hU : tw_inj mX u) (K : Nat) (r1 : Nat) (hr1 : mw_net r1) (z z1 : ow_MS) (hq : qe_X13_twoGo K r1 z = some z1) : Met l yX13_twoGo wm_X13_twoGo ({ frames := 6, cells := 0, slots := 0, locals := 156 } : Room) (va_Pc [.ref (u 0), .ref (u r1)] (mw_pre D q u z)) (va_Qv (fun (_ : Unit) => True) (fun _ t => va_P D vwCl (tw mX q u z1) t.heap) (tw_A mX u)) 0 0 (tw_A mX u) := by
  refine Met.ofW (cc := cX13_twoGo) (maxL := 6) (ret := none) (by decide) rfl ?_
  intro p e s m args below meth c s₁ B hml hv
  obtain ⟨rfl, hP, hK, hN⟩ := hv
  have hx := B.exec
  have hb := B.bytes
  have hr := B.returns
  have hts := atoms_spec (ws := wm_X13_twoGo) B.pre
  have hT : ∀ w ∈ wM, w.before ([.ref (u 0), .ref (u r1)] : List Value).toArray s = true := fun w h => hts w (List.mem_cons_of_mem _ h)
  have hown : s.vm.findClass RX13 = some m.cls := findClass_of_methodNamed B.named
  have hlocks := B.notSynchronized
  have hM : tw_M D vwCl mX q s.heap u z s.heap [] := ⟨hP, va_S.rf⟩
  have hl := lv_entry ([.ref (u 0), .ref (u r1)]) (n := 6) (Nat.le_of_ble_eq_true rfl)
  rw [lg_entry_eq]
  generalize (lg_sl ([.ref (u 0), .ref (u r1)]) ++ List.replicate (6 - (lg_sl ([.ref (u 0), .ref (u r1)])).length) Slot.unset).toArray = ls at hl ⊢
  have hl : lv_has ls 6 [(0, .ref (u 0)), (1, .ref (u r1))] := hl
  refine ow_named (fun QQ hQQ => ?_)
  generalize ([.ref (u 0), .ref (u r1)] : List Value).toArray = args at hts hT hQQ ⊢
  have key : ∀ k : Nat, (∀ (x2 : Int32) (x3 : Int32) (x4 : Int32) (x5 : Int32) (r1 : Nat) (z : ow_MS) (H : Heap) (locs : List Loc) (ls : Array Slot), mw_net r1 → tw_M D vwCl mX q s.heap u z H locs → lv_has ls 6 [(0, .ref (u 0)), (1, .ref (u r1))] → q_X13_twoGo K k 0 x2 x3 x4 x5 r1 z = some z1 → W p l e ({ frames := 6, cells := 0, slots := 0, locals := 156 } : Room) s m args below meth c H locs 0 0 QQ (F0 m 0 ls [])) ∧ (∀ (x2 : Int32) (x3 : Int32) (x4 : Int32) (x5 : Int32) (r1 : Nat) (z : ow_MS) (H : Heap) (locs : List Loc) (ls : Array Slot), mw_net r1 → tw_M D vwCl mX q s.heap u z H locs → lv_has ls 6 [(0, .ref (u 0)), (1, .ref (u r1)), (2, .int x2)] → q_X13_twoGo K k 1 x2 x3 x4 x5 r1 z = some z1 → W p l e ({ frames := 6, cells := 0, slots := 0, locals := 156 } : Room) s m args below meth c H locs 0 0 QQ (F0 m 2 ls [])) ∧ (∀ (x2 : Int32) (x3 : Int32) (x4 : Int32) (x5 : Int32) (r1 : Nat) (z : ow_MS) (H : Heap) (locs : List Loc) (ls : Array Slot), mw_net r1 → tw_M D vwCl mX q s.heap u z H locs → lv_has ls 6 [(0, .ref (u 0)), (1, .ref (u r1)), (2, .int x2), (3, .int x3), (4, .int x4), (5, .int x5)] → q_X13_twoGo K k 2 x2 x3 x4 x5 r1 z = some z1 → W p l e ({ frames := 6, cells := 0, slots := 0, locals := 156 } : Room) s m args below meth c H locs 0 0 QQ (F0 m 115 ls [])) ∧ (∀ (x2 : Int32) (x3 : Int32) (x4 : Int32) (x5 : Int32) (r1 : Nat) (z : ow_MS) (H : Heap) (locs : List Loc) (ls : Array Slot), mw_net r1 → tw_M D vwCl mX q s.heap u z H locs → lv_has ls 6 [(0, .ref (u 0)), (1, .ref (u r1)), (2, .int x2), (3, .int x3)] → q_X13_twoGo K k 3 x2 x3 x4 x5 r1 z = some z1 → W p l e ({ frames := 6, cells := 0, slots := 0, locals := 156 } : Room) s m args below meth c H locs 0 0 QQ (F0 m 132 ls [])) := by
    intro k
    induction k with
    | zero => exact ⟨fun _ _ _ _ _ _ _ _ _ _ _ _ hq => tw_no hq, fun _ _ _ _ _ _ _ _ _ _ _ _ hq => tw_no hq, fun _ _ _ _ _ _ _ _ _ _ _ _ hq => tw_no hq, fun _ _ _ _ _ _ _ _ _ _ _ _ hq => tw_no hq⟩
    | succ k ih =>
      obtain ⟨ih_0, ih_1, ih_2, ih_3⟩ := ih
      refine ⟨?_, ?_, ?_, ?_⟩
      · intro x2 x3 x4 x5 r1 z H locs ls hr1 hM hl hq
        have hq : qm_X13_twoGo_0 K (q_X13_twoGo K k) x2 x3 x4 x5 r1 z = some z1 := hq
        unfold qm_X13_twoGo_0 at hq
        refine lv_iconst (v := 0) hx hb dmX13_twoGo_0 (by decide) ?_
        refine lv_istore_n (lv' := [(2, .int 0), (0, .ref (u 0)), (1, .ref (u r1))]) hx hb dmX13_twoGo_1 rfl hl (by decide) rfl (fun ls hl => ?_)
        exact ih_1 0 0 0 0 r1 z H locs ls hr1 hM (lv_sub hl [1, 2, 0] rfl) hq
      · intro x2 x3 x4 x5 r1 z H locs ls hr1 hM hl hq
        have hq : qm_X13_twoGo_1 K (q_X13_twoGo K k) x2 x3 x4 x5 r1 z = some z1 := hq
        unfold qm_X13_twoGo_1 at hq
        refine lv_iload_n hx hb dmX13_twoGo_2 rfl (lv_at hl 2 rfl) ?_
        refine lv_aload_n hx hb dmX13_twoGo_3 rfl (lv_at hl 1 rfl) ?_
        refine mg13_44 hx hb hT hown hK hM hN hr1 hq dmX13_twoGo_4 (fun v1 hq => ?_)
        refine lv_icmp_ge (tgt := 138) hx hb dmX13_twoGo_7 (by decide) (fun hc => ?_) (fun hc => ?_)
        · have hq := tw_it hq hc
          exact mw_vret hx hb hr hlocks hM hq hQQ dmX13_twoGo_138
        · have hq := tw_if hq hc
          refine lv_aload_n hx hb dmX13_twoGo_10 rfl (lv_at hl 1 rfl) ?_
          refine mg13_38 hx hb hT hown hK hM hN hr1 dmX13_twoGo_11 ?_
          refine lv_iload_n hx hb dmX13_twoGo_14 rfl (lv_at hl 2 rfl) ?_
          refine tw_iald mX_ok hx hb hK hM (mrn_9 hr1) hq dmX13_twoGo_15 (fun v2 hq => ?_)
          refine lv_istore_n (lv' := [(3, .int v2), (0, .ref (u 0)), (1, .ref (u r1)), (2, .int x2)]) hx hb dmX13_twoGo_16 rfl hl (by decide) rfl (fun ls hl => ?_)
          refine lv_aload_n hx hb dmX13_twoGo_17 rfl (lv_at hl 2 rfl) ?_
          refine mg13_32 hx hb hT hown hK hM hN hr1 dmX13_twoGo_18 ?_
          refine lv_iload_n hx hb dmX13_twoGo_21 rfl (lv_at hl 3 rfl) ?_
          refine tw_iald mX_ok hx hb hK hM (mrn_5 hr1) hq dmX13_twoGo_22 (fun v3 hq => ?_)
          refine lv_if_ne (tgt := 132) hx hb dmX13_twoGo_23 (by decide) (fun hc => ?_) (fun hc => ?_)
          · have hq := tw_if hq hc
            exact ih_3 x2 v2 0 0 r1 z H locs ls hr1 hM (lv_sub hl [1, 2, 3, 0] rfl) hq
          · have hq := tw_it hq hc
            refine lv_aload_n hx hb dmX13_twoGo_26 rfl (lv_at hl 2 rfl) ?_
            refine mg13_32 hx hb hT hown hK hM hN hr1 dmX13_twoGo_27 ?_
            refine lv_iload_n hx hb dmX13_twoGo_30 rfl (lv_at hl 0 rfl) ?_
            refine tw_iald mX_ok hx hb hK hM (mrn_5 hr1) hq dmX13_twoGo_31 (fun v4 hq => ?_)
            refine lv_if_ne (tgt := 132) hx hb dmX13_twoGo_32 (by decide) (fun hc => ?_) (fun hc => ?_)
            · have hq := tw_if hq hc
              exact ih_3 x2 v2 0 0 r1 z H locs ls hr1 hM (lv_sub hl [1, 2, 3, 0] rfl) hq
            · have hq := tw_it hq hc
              refine lv_aload_n hx hb dmX13_twoGo_35 rfl (lv_at hl 2 rfl) ?_
              refine mg13_23 hx hb hT hown hK hM hN hr1 dmX13_twoGo_36 ?_
              refine lv_iload_n hx hb dmX13_twoGo_39 rfl (lv_at hl 3 rfl) ?_
              refine tw_iald mX_ok hx hb hK hM (mrn_4 hr1) hq dmX13_twoGo_40 (fun v5 hq => ?_)
              refine lv_aload_n hx hb dmX13_twoGo_41 rfl (lv_at hl 2 rfl) ?_
              refine mg13_23 hx hb hT hown hK hM hN hr1 dmX13_twoGo_42 ?_
              refine lv_iload_n hx hb dmX13_twoGo_45 rfl (lv_at hl 0 rfl) ?_
              refine tw_iald mX_ok hx hb hK hM (mrn_4 hr1) hq dmX13_twoGo_46 (fun v6 hq => ?_)
              refine lv_icmp_eq (tgt := 132) hx hb dmX13_twoGo_47 (by decide) (fun hc => ?_) (fun hc => ?_)
              · have hq := tw_it hq hc
                exact ih_3 x2 v2 0 0 r1 z H locs ls hr1 hM (lv_sub hl [1, 2, 3, 0] rfl) hq
              · have hq := tw_if hq hc
                refine lv_aload_n hx hb dmX13_twoGo_50 rfl (lv_at hl 2 rfl) ?_
                refine mg13_35 hx hb hT hown hK hM hN hr1 dmX13_twoGo_51 ?_
                refine lv_aload_n hx hb dmX13_twoGo_54 rfl (lv_at hl 2 rfl) ?_
                refine mg13_23 hx hb hT hown hK hM hN hr1 dmX13_twoGo_55 ?_
                refine lv_iload_n hx hb dmX13_twoGo_58 rfl (lv_at hl 3 rfl) ?_
                refine tw_iald mX_ok hx hb hK hM (mrn_4 hr1) hq dmX13_twoGo_59 (fun v7 hq => ?_)
                refine tw_iald mX_ok hx hb hK hM (mrn_6 hr1) hq dmX13_twoGo_60 (fun v8 hq => ?_)
                refine lv_aload_n hx hb dmX13_twoGo_61 rfl (lv_at hl 2 rfl) ?_
                refine mg13_35 hx hb hT hown hK hM hN hr1 dmX13_twoGo_62 ?_
                refine lv_aload_n hx hb dmX13_twoGo_65 rfl (lv_at hl 2 rfl) ?_
                refine mg13_23 hx hb hT hown hK hM hN hr1 dmX13_twoGo_66 ?_
                refine lv_iload_n hx hb dmX13_twoGo_69 rfl (lv_at hl 0 rfl) ?_
                refine tw_iald mX_ok hx hb hK hM (mrn_4 hr1) hq dmX13_twoGo_70 (fun v9 hq => ?_)
                refine tw_iald mX_ok hx hb hK hM (mrn_6 hr1) hq dmX13_twoGo_71 (fun v10 hq => ?_)
                refine lv_icmp_eq (tgt := 132) hx hb dmX13_twoGo_72 (by decide) (fun hc => ?_) (fun hc => ?_)
                · have hq := tw_it hq hc
                  exact ih_3 x2 v2 0 0 r1 z H locs ls hr1 hM (lv_sub hl [1, 2, 3, 0] rfl) hq
                · have hq := tw_if hq hc
                  refine lv_aload_n hx hb dmX13_twoGo_75 rfl (lv_at hl 2 rfl) ?_
                  refine mg13_41 hx hb hT hown hK hM hN hr1 dmX13_twoGo_76 ?_
                  refine lv_iload_n hx hb dmX13_twoGo_79 rfl (lv_at hl 3 rfl) ?_
                  refine tw_iald mX_ok hx hb hK hM (mrn_7 hr1) hq dmX13_twoGo_80 (fun v11 hq => ?_)
                  refine lv_istore (lv' := [(4, .int v11), (3, .int v2), (0, .ref (u 0)), (1, .ref (u r1)), (2, .int x2)]) hx hb dmX13_twoGo_81 hl (by decide) rfl (fun ls hl => ?_)
                  refine lv_aload_n hx hb dmX13_twoGo_83 rfl (lv_at hl 3 rfl) ?_
                  refine mg13_41 hx hb hT hown hK hM hN hr1 dmX13_twoGo_84 ?_
                  refine lv_iload_n hx hb dmX13_twoGo_87 rfl (lv_at hl 1 rfl) ?_
                  refine tw_iald mX_ok hx hb hK hM (mrn_7 hr1) hq dmX13_twoGo_88 (fun v12 hq => ?_)
                  refine lv_istore (lv' := [(5, .int v12), (4, .int v11), (3, .int v2), (0, .ref (u 0)), (1, .ref (u r1)), (2, .int x2)]) hx hb dmX13_twoGo_89 hl (by decide) rfl (fun ls hl => ?_)
                  refine lv_aload_n hx hb dmX13_twoGo_91 rfl (lv_at hl 4 rfl) ?_
                  refine mg13_38 hx hb hT hown hK hM hN hr1 dmX13_twoGo_92 ?_
                  refine lv_iload hx hb dmX13_twoGo_95 (lv_at hl 1 rfl) ?_
                  refine tw_iald mX_ok hx hb hK hM (mrn_9 hr1) hq dmX13_twoGo_97 (fun v13 hq => ?_)
                  refine lv_iload hx hb dmX13_twoGo_98 (lv_at hl 0 rfl) ?_
                  refine lv_icmp_eq (tgt := 115) hx hb dmX13_twoGo_100 (by decide) (fun hc => ?_) (fun hc => ?_)
                  · have hq := tw_it hq hc
                    exact ih_2 x2 v2 v11 v12 r1 z H locs ls hr1 hM (lv_sub hl [3, 4, 5, 2, 1, 0] rfl) hq
                  · have hq := tw_if hq hc
                    refine lv_aload_n hx hb dmX13_twoGo_103 rfl (lv_at hl 4 rfl) ?_
                    refine mg13_38 hx hb hT hown hK hM hN hr1 dmX13_twoGo_104 ?_
                    refine lv_iload hx hb dmX13_twoGo_107 (lv_at hl 0 rfl) ?_
                    refine tw_iald mX_ok hx hb hK hM (mrn_9 hr1) hq dmX13_twoGo_109 (fun v14 hq => ?_)
                    refine lv_iload hx hb dmX13_twoGo_110 (lv_at hl 1 rfl) ?_
                    refine lv_icmp_ne (tgt := 132) hx hb dmX13_twoGo_112 (by decide) (fun hc => ?_) (fun hc => ?_)
                    · have hq := tw_if hq hc
                      exact ih_3 x2 v2 0 0 r1 z H locs ls hr1 hM (lv_sub hl [3, 4, 5, 2] rfl) hq
                    · have hq := tw_it hq hc
                      exact ih_2 x2 v2 v11 v12 r1 z H locs ls hr1 hM (lv_sub hl [3, 4, 5, 2, 1, 0] rfl) hq
      · intro x2 x3 x4 x5 r1 z H locs ls hr1 hM hl hq
        have hq : qm_X13_twoGo_2 K (q_X13_twoGo K k) x2 x3 x4 x5 r1 z = some z1 := hq
        unfold qm_X13_twoGo_2 at hq
        refine lv_aload_n hx hb dmX13_twoGo_115 rfl (lv_at hl 0 rfl) ?_
        refine lv_aload_n hx hb dmX13_twoGo_116 rfl (lv_at hl 1 rfl) ?_
        refine lv_aload_n hx hb dmX13_twoGo_117 rfl (lv_at hl 1 rfl) ?_
        refine mg13_23 hx hb hT hown hK hM hN hr1 dmX13_twoGo_118 ?_
        refine lv_iload_n hx hb dmX13_twoGo_121 rfl (lv_at hl 2 rfl) ?_
        refine tw_iald mX_ok hx hb hK hM (mrn_4 hr1) hq dmX13_twoGo_122 (fun v15 hq => ?_)
        refine lv_aload_n hx hb dmX13_twoGo_123 rfl (lv_at hl 1 rfl) ?_
        refine mg13_23 hx hb hT hown hK hM hN hr1 dmX13_twoGo_124 ?_
        refine lv_iload_n hx hb dmX13_twoGo_127 rfl (lv_at hl 3 rfl) ?_
        refine tw_iald mX_ok hx hb hK hM (mrn_4 hr1) hq dmX13_twoGo_128 (fun v16 hq => ?_)
        obtain ⟨z17, hcq, hq⟩ := tw_cl0 hq
        refine tw_calv hM (va_runV (As := [.ref (u r1), .int v15, .int v16]) (rest := []) ⟨hx, hb, hml, hown, hts⟩ (km_X13_without l D q u hU K r1 v15 v16 hr1 z z17 hcq) (cwV 3 hts (tw_gV wM_good wq_219 wq_220 wq_221 wq_61 wq_195) rfl rfl rfl cd_X13_without ⟨(Nat.le_of_ble_eq_true rfl), (Nat.le_of_ble_eq_true rfl)⟩) (mw_preV hK hN hM mo_0 rfl) rfl rfl hl.1 rfl (lv_room (Nat.le_of_ble_eq_true rfl)) dmX13_twoGo_129 ⟨(Nat.le_of_ble_eq_true rfl), (Nat.le_of_ble_eq_true rfl)⟩) (fun H locs hM => ?_)
        exact ih_3 x2 x3 0 0 r1 z17 H locs ls hr1 hM (lv_sub hl [0, 1, 2, 3] rfl) hq
      · intro x2 x3 x4 x5 r1 z H locs ls hr1 hM hl hq
        have hq : qm_X13_twoGo_3 K (q_X13_twoGo K k) x2 x3 x4 x5 r1 z = some z1 := hq
        unfold qm_X13_twoGo_3 at hq
        refine lv_iinc (v := (x2 + 1)) (lv' := [(2, .int (x2 + 1)), (0, .ref (u 0)), (1, .ref (u r1)), (3, .int x3)]) hx hb dmX13_twoGo_132 hl (k := 2) rfl rfl (by decide) rfl (fun ls hl => ?_)
        refine lv_goto (tgt := 2) hx hb dmX13_twoGo_135 (by decide) ?_
        exact ih_1 (x2 + 1) 0 0 0 r1 z H locs ls hr1 hM (lv_sub hl [1, 2, 0] rfl) hq
  exact (key K).1 0 0 0 0 r1 z s.heap [] ls hr1 hM (lv_sub hl [0, 1] rfl) hq
theorem dmX13_threeChange_0 : decode cX13_threeChange 0 = .ok (.aload_n 1, 1) := dw_at cX13_threeChange_k0 (p := 0) rfl (by decide +kernel)
theorem dmX13_threeChange_1 : decode cX13_threeChange 1 = .ok (.invokevirtual 516, 3) := dw_at cX13_threeChange_k0 (p := 1) rfl (by decide +kernel)
theorem dmX13_threeChange_4 : decode cX13_threeChange 4 = .ok (.iconst 0, 1) := dw_at cX13_threeChange_k0 (p := 4) rfl (by decide +kernel)
theorem dmX13_threeChange_5 : decode cX13_threeChange 5 = .ok (.istore_n 2, 1) := dw_at cX13_threeChange_k0 (p := 5) rfl (by decide +kernel)
theorem dmX13_threeChange_6 : decode cX13_threeChange 6 = .ok (.iload_n 2, 1) := dw_at cX13_threeChange_k0 (p := 6) rfl (by decide +kernel)
theorem dmX13_threeChange_7 : decode cX13_threeChange 7 = .ok (.aload_n 1, 1) := dw_at cX13_threeChange_k0 (p := 7) rfl (by decide +kernel)
theorem dmX13_threeChange_8 : decode cX13_threeChange 8 = .ok (.getfield 519, 3) := dw_at cX13_threeChange_k0 (p := 8) rfl (by decide +kernel)
theorem dmX13_threeChange_11 : decode cX13_threeChange 11 = .ok (.if_icmp .ge 300, 3) := dw_at cX13_threeChange_k0 (p := 11) rfl (by decide +kernel)
theorem dmX13_threeChange_14 : decode cX13_threeChange 14 = .ok (.aload_n 1, 1) := dw_at cX13_threeChange_k0 (p := 14) rfl (by decide +kernel)
theorem dmX13_threeChange_15 : decode cX13_threeChange 15 = .ok (.getfield 522, 3) := dw_at cX13_threeChange_k0 (p := 15) rfl (by decide +kernel)
theorem dmX13_threeChange_18 : decode cX13_threeChange 18 = .ok (.iload_n 2, 1) := dw_at cX13_threeChange_k0 (p := 18) rfl (by decide +kernel)
theorem dmX13_threeChange_19 : decode cX13_threeChange 19 = .ok (.iaload, 1) := dw_at cX13_threeChange_k0 (p := 19) rfl (by decide +kernel)
theorem dmX13_threeChange_20 : decode cX13_threeChange 20 = .ok (.iconst 3, 1) := dw_at cX13_threeChange_k0 (p := 20) rfl (by decide +kernel)
theorem dmX13_threeChange_21 : decode cX13_threeChange 21 = .ok (.if_icmp .ne 284, 3) := dw_at cX13_threeChange_k0 (p := 21) rfl (by decide +kernel)
theorem dmX13_threeChange_24 : decode cX13_threeChange 24 = .ok (.iconst 0, 1) := dw_at cX13_threeChange_k1 (p := 0) rfl (by decide +kernel)
theorem dmX13_threeChange_25 : decode cX13_threeChange 25 = .ok (.istore_n 3, 1) := dw_at cX13_threeChange_k1 (p := 1) rfl (by decide +kernel)
theorem dmX13_threeChange_26 : decode cX13_threeChange 26 = .ok (.iconst 0, 1) := dw_at cX13_threeChange_k1 (p := 2) rfl (by decide +kernel)
theorem dmX13_threeChange_27 : decode cX13_threeChange 27 = .ok (.istore 4, 2) := dw_at cX13_threeChange_k1 (p := 3) rfl (by decide +kernel)
theorem dmX13_threeChange_29 : decode cX13_threeChange 29 = .ok (.iconst 0, 1) := dw_at cX13_threeChange_k1 (p := 5) rfl (by decide +kernel)
theorem dmX13_threeChange_30 : decode cX13_threeChange 30 = .ok (.istore 5, 2) := dw_at cX13_threeChange_k1 (p := 6) rfl (by decide +kernel)
theorem dmX13_threeChange_32 : decode cX13_threeChange 32 = .ok (.iload 5, 2) := dw_at cX13_threeChange_k1 (p := 8) rfl (by decide +kernel)
theorem dmX13_threeChange_34 : decode cX13_threeChange 34 = .ok (.iconst 2, 1) := dw_at cX13_threeChange_k1 (p := 10) rfl (by decide +kernel)
theorem dmX13_threeChange_35 : decode cX13_threeChange 35 = .ok (.aload_n 1, 1) := dw_at cX13_threeChange_k1 (p := 11) rfl (by decide +kernel)
theorem dmX13_threeChange_36 : decode cX13_threeChange 36 = .ok (.getfield 44, 3) := dw_at cX13_threeChange_k1 (p := 12) rfl (by decide +kernel)
theorem dmX13_threeChange_39 : decode cX13_threeChange 39 = .ok (.imul, 1) := dw_at cX13_threeChange_k1 (p := 15) rfl (by decide +kernel)
theorem dmX13_threeChange_40 : decode cX13_threeChange 40 = .ok (.if_icmp .ge 102, 3) := dw_at cX13_threeChange_k1 (p := 16) rfl (by decide +kernel)
theorem dmX13_threeChange_43 : decode cX13_threeChange 43 = .ok (.aload_n 1, 1) := dw_at cX13_threeChange_k1 (p := 19) rfl (by decide +kernel)
theorem dmX13_threeChange_44 : decode cX13_threeChange 44 = .ok (.getfield 525, 3) := dw_at cX13_threeChange_k1 (p := 20) rfl (by decide +kernel)
theorem dmX13_threeChange_47 : decode cX13_threeChange 47 = .ok (.iload 5, 2) := dw_at cX13_threeChange_k1 (p := 23) rfl (by decide +kernel)
theorem dmX13_threeChange_49 : decode cX13_threeChange 49 = .ok (.iaload, 1) := dw_at cX13_threeChange_k2 (p := 0) rfl (by decide +kernel)
theorem dmX13_threeChange_50 : decode cX13_threeChange 50 = .ok (.iload_n 2, 1) := dw_at cX13_threeChange_k2 (p := 1) rfl (by decide +kernel)
theorem dmX13_threeChange_51 : decode cX13_threeChange 51 = .ok (.if_icmp .ne 85, 3) := dw_at cX13_threeChange_k2 (p := 2) rfl (by decide +kernel)
theorem dmX13_threeChange_54 : decode cX13_threeChange 54 = .ok (.iload 5, 2) := dw_at cX13_threeChange_k2 (p := 5) rfl (by decide +kernel)
theorem dmX13_threeChange_56 : decode cX13_threeChange 56 = .ok (.iconst 1, 1) := dw_at cX13_threeChange_k2 (p := 7) rfl (by decide +kernel)
theorem dmX13_threeChange_57 : decode cX13_threeChange 57 = .ok (.ishr, 1) := dw_at cX13_threeChange_k2 (p := 8) rfl (by decide +kernel)
theorem dmX13_threeChange_58 : decode cX13_threeChange 58 = .ok (.istore 6, 2) := dw_at cX13_threeChange_k2 (p := 9) rfl (by decide +kernel)
theorem dmX13_threeChange_60 : decode cX13_threeChange 60 = .ok (.aload_n 0, 1) := dw_at cX13_threeChange_k2 (p := 11) rfl (by decide +kernel)
theorem dmX13_threeChange_61 : decode cX13_threeChange 61 = .ok (.getfield 161, 3) := dw_at cX13_threeChange_k2 (p := 12) rfl (by decide +kernel)
theorem dmX13_threeChange_64 : decode cX13_threeChange 64 = .ok (.iload_n 3, 1) := dw_at cX13_threeChange_k2 (p := 15) rfl (by decide +kernel)
theorem dmX13_threeChange_65 : decode cX13_threeChange 65 = .ok (.iload 6, 2) := dw_at cX13_threeChange_k2 (p := 16) rfl (by decide +kernel)
theorem dmX13_threeChange_67 : decode cX13_threeChange 67 = .ok (.iastore, 1) := dw_at cX13_threeChange_k2 (p := 18) rfl (by decide +kernel)
theorem dmX13_threeChange_68 : decode cX13_threeChange 68 = .ok (.aload_n 0, 1) := dw_at cX13_threeChange_k2 (p := 19) rfl (by decide +kernel)
theorem dmX13_threeChange_69 : decode cX13_threeChange 69 = .ok (.getfield 164, 3) := dw_at cX13_threeChange_k2 (p := 20) rfl (by decide +kernel)
theorem dmX13_threeChange_72 : decode cX13_threeChange 72 = .ok (.iload_n 3, 1) := dw_at cX13_threeChange_k2 (p := 23) rfl (by decide +kernel)
theorem dmX13_threeChange_73 : decode cX13_threeChange 73 = .ok (.aload_n 1, 1) := dw_at cX13_threeChange_k3 (p := 0) rfl (by decide +kernel)
theorem dmX13_threeChange_74 : decode cX13_threeChange 74 = .ok (.getfield 23, 3) := dw_at cX13_threeChange_k3 (p := 1) rfl (by decide +kernel)
theorem dmX13_threeChange_77 : decode cX13_threeChange 77 = .ok (.iload 5, 2) := dw_at cX13_threeChange_k3 (p := 4) rfl (by decide +kernel)
theorem dmX13_threeChange_79 : decode cX13_threeChange 79 = .ok (.iconst 1, 1) := dw_at cX13_threeChange_k3 (p := 6) rfl (by decide +kernel)
theorem dmX13_threeChange_80 : decode cX13_threeChange 80 = .ok (.iand, 1) := dw_at cX13_threeChange_k3 (p := 7) rfl (by decide +kernel)
theorem dmX13_threeChange_81 : decode cX13_threeChange 81 = .ok (.ifCond .ne 13, 3) := dw_at cX13_threeChange_k3 (p := 8) rfl (by decide +kernel)
theorem dmX13_threeChange_84 : decode cX13_threeChange 84 = .ok (.aload_n 1, 1) := dw_at cX13_threeChange_k3 (p := 11) rfl (by decide +kernel)
theorem dmX13_threeChange_85 : decode cX13_threeChange 85 = .ok (.getfield 38, 3) := dw_at cX13_threeChange_k3 (p := 12) rfl (by decide +kernel)
theorem dmX13_threeChange_88 : decode cX13_threeChange 88 = .ok (.iload 6, 2) := dw_at cX13_threeChange_k3 (p := 15) rfl (by decide +kernel)
theorem dmX13_threeChange_90 : decode cX13_threeChange 90 = .ok (.iaload, 1) := dw_at cX13_threeChange_k3 (p := 17) rfl (by decide +kernel)
theorem dmX13_threeChange_91 : decode cX13_threeChange 91 = .ok (.goto 5, 3) := dw_at cX13_threeChange_k3 (p := 18) rfl (by decide +kernel)
theorem dmX13_threeChange_94 : decode cX13_threeChange 94 = .ok (.iload 6, 2) := dw_at cX13_threeChange_k3 (p := 21) rfl (by decide +kernel)
theorem dmX13_threeChange_96 : decode cX13_threeChange 96 = .ok (.iaload, 1) := dw_at cX13_threeChange_k3 (p := 23) rfl (by decide +kernel)
theorem dmX13_threeChange_97 : decode cX13_threeChange 97 = .ok (.iastore, 1) := dw_at cX13_threeChange_k4 (p := 0) rfl (by decide +kernel)
theorem dmX13_threeChange_98 : decode cX13_threeChange 98 = .ok (.iload 4, 2) := dw_at cX13_threeChange_k4 (p := 1) rfl (by decide +kernel)
theorem dmX13_threeChange_100 : decode cX13_threeChange 100 = .ok (.aload_n 1, 1) := dw_at cX13_threeChange_k4 (p := 3) rfl (by decide +kernel)
theorem dmX13_threeChange_101 : decode cX13_threeChange 101 = .ok (.getfield 32, 3) := dw_at cX13_threeChange_k4 (p := 4) rfl (by decide +kernel)
theorem dmX13_threeChange_104 : decode cX13_threeChange 104 = .ok (.iload 6, 2) := dw_at cX13_threeChange_k4 (p := 7) rfl (by decide +kernel)
theorem dmX13_threeChange_106 : decode cX13_threeChange 106 = .ok (.iaload, 1) := dw_at cX13_threeChange_k4 (p := 9) rfl (by decide +kernel)
theorem dmX13_threeChange_107 : decode cX13_threeChange 107 = .ok (.ifCond .ne 22, 3) := dw_at cX13_threeChange_k4 (p := 10) rfl (by decide +kernel)
theorem dmX13_threeChange_110 : decode cX13_threeChange 110 = .ok (.aload_n 1, 1) := dw_at cX13_threeChange_k4 (p := 13) rfl (by decide +kernel)
theorem dmX13_threeChange_111 : decode cX13_threeChange 111 = .ok (.getfield 32, 3) := dw_at cX13_threeChange_k4 (p := 14) rfl (by decide +kernel)
theorem dmX13_threeChange_114 : decode cX13_threeChange 114 = .ok (.aload_n 1, 1) := dw_at cX13_threeChange_k4 (p := 17) rfl (by decide +kernel)
theorem dmX13_threeChange_115 : decode cX13_threeChange 115 = .ok (.getfield 38, 3) := dw_at cX13_threeChange_k4 (p := 18) rfl (by decide +kernel)
theorem dmX13_threeChange_118 : decode cX13_threeChange 118 = .ok (.iload 6, 2) := dw_at cX13_threeChange_k4 (p := 21) rfl (by decide +kernel)
theorem dmX13_threeChange_120 : decode cX13_threeChange 120 = .ok (.iaload, 1) := dw_at cX13_threeChange_k4 (p := 23) rfl (by decide +kernel)
theorem dmX13_threeChange_121 : decode cX13_threeChange 121 = .ok (.iaload, 1) := dw_at cX13_threeChange_k5 (p := 0) rfl (by decide +kernel)
theorem dmX13_threeChange_122 : decode cX13_threeChange 122 = .ok (.ifCond .ne 7, 3) := dw_at cX13_threeChange_k5 (p := 1) rfl (by decide +kernel)
theorem dmX13_threeChange_125 : decode cX13_threeChange 125 = .ok (.iconst 1, 1) := dw_at cX13_threeChange_k5 (p := 4) rfl (by decide +kernel)
theorem dmX13_threeChange_126 : decode cX13_threeChange 126 = .ok (.goto 4, 3) := dw_at cX13_threeChange_k5 (p := 5) rfl (by decide +kernel)
theorem dmX13_threeChange_129 : decode cX13_threeChange 129 = .ok (.iconst 0, 1) := dw_at cX13_threeChange_k5 (p := 8) rfl (by decide +kernel)
theorem dmX13_threeChange_130 : decode cX13_threeChange 130 = .ok (.ior, 1) := dw_at cX13_threeChange_k5 (p := 9) rfl (by decide +kernel)
theorem dmX13_threeChange_131 : decode cX13_threeChange 131 = .ok (.istore 4, 2) := dw_at cX13_threeChange_k5 (p := 10) rfl (by decide +kernel)
theorem dmX13_threeChange_133 : decode cX13_threeChange 133 = .ok (.iinc 3 1, 3) := dw_at cX13_threeChange_k5 (p := 12) rfl (by decide +kernel)
theorem dmX13_threeChange_136 : decode cX13_threeChange 136 = .ok (.iinc 5 1, 3) := dw_at cX13_threeChange_k5 (p := 15) rfl (by decide +kernel)
theorem dmX13_threeChange_139 : decode cX13_threeChange 139 = .ok (.goto (-107), 3) := dw_at cX13_threeChange_k5 (p := 18) rfl (by decide +kernel)
theorem dmX13_threeChange_142 : decode cX13_threeChange 142 = .ok (.iload 4, 2) := dw_at cX13_threeChange_k5 (p := 21) rfl (by decide +kernel)
theorem dmX13_threeChange_144 : decode cX13_threeChange 144 = .ok (.ifCond .eq 161, 3) := dw_at cX13_threeChange_k5 (p := 23) rfl (by decide +kernel)
theorem dmX13_threeChange_147 : decode cX13_threeChange 147 = .ok (.aload_n 0, 1) := dw_at cX13_threeChange_k6 (p := 0) rfl (by decide +kernel)
theorem dmX13_threeChange_148 : decode cX13_threeChange 148 = .ok (.getfield 164, 3) := dw_at cX13_threeChange_k6 (p := 1) rfl (by decide +kernel)
theorem dmX13_threeChange_151 : decode cX13_threeChange 151 = .ok (.iconst 0, 1) := dw_at cX13_threeChange_k6 (p := 4) rfl (by decide +kernel)
theorem dmX13_threeChange_152 : decode cX13_threeChange 152 = .ok (.iaload, 1) := dw_at cX13_threeChange_k6 (p := 5) rfl (by decide +kernel)
theorem dmX13_threeChange_153 : decode cX13_threeChange 153 = .ok (.aload_n 0, 1) := dw_at cX13_threeChange_k6 (p := 6) rfl (by decide +kernel)
theorem dmX13_threeChange_154 : decode cX13_threeChange 154 = .ok (.getfield 164, 3) := dw_at cX13_threeChange_k6 (p := 7) rfl (by decide +kernel)
theorem dmX13_threeChange_157 : decode cX13_threeChange 157 = .ok (.iconst 1, 1) := dw_at cX13_threeChange_k6 (p := 10) rfl (by decide +kernel)
theorem dmX13_threeChange_158 : decode cX13_threeChange 158 = .ok (.iaload, 1) := dw_at cX13_threeChange_k6 (p := 11) rfl (by decide +kernel)
theorem dmX13_threeChange_159 : decode cX13_threeChange 159 = .ok (.if_icmp .eq 146, 3) := dw_at cX13_threeChange_k6 (p := 12) rfl (by decide +kernel)
theorem dmX13_threeChange_162 : decode cX13_threeChange 162 = .ok (.aload_n 0, 1) := dw_at cX13_threeChange_k6 (p := 15) rfl (by decide +kernel)
theorem dmX13_threeChange_163 : decode cX13_threeChange 163 = .ok (.getfield 164, 3) := dw_at cX13_threeChange_k6 (p := 16) rfl (by decide +kernel)
theorem dmX13_threeChange_166 : decode cX13_threeChange 166 = .ok (.iconst 0, 1) := dw_at cX13_threeChange_k6 (p := 19) rfl (by decide +kernel)
theorem dmX13_threeChange_167 : decode cX13_threeChange 167 = .ok (.iaload, 1) := dw_at cX13_threeChange_k6 (p := 20) rfl (by decide +kernel)
theorem dmX13_threeChange_168 : decode cX13_threeChange 168 = .ok (.aload_n 0, 1) := dw_at cX13_threeChange_k6 (p := 21) rfl (by decide +kernel)
theorem dmX13_threeChange_169 : decode cX13_threeChange 169 = .ok (.getfield 164, 3) := dw_at cX13_threeChange_k6 (p := 22) rfl (by decide +kernel)
theorem dmX13_threeChange_172 : decode cX13_threeChange 172 = .ok (.iconst 2, 1) := dw_at cX13_threeChange_k7 (p := 0) rfl (by decide +kernel)
theorem dmX13_threeChange_173 : decode cX13_threeChange 173 = .ok (.iaload, 1) := dw_at cX13_threeChange_k7 (p := 1) rfl (by decide +kernel)
theorem dmX13_threeChange_174 : decode cX13_threeChange 174 = .ok (.if_icmp .eq 131, 3) := dw_at cX13_threeChange_k7 (p := 2) rfl (by decide +kernel)
theorem dmX13_threeChange_177 : decode cX13_threeChange 177 = .ok (.aload_n 0, 1) := dw_at cX13_threeChange_k7 (p := 5) rfl (by decide +kernel)
theorem dmX13_threeChange_178 : decode cX13_threeChange 178 = .ok (.getfield 164, 3) := dw_at cX13_threeChange_k7 (p := 6) rfl (by decide +kernel)
theorem dmX13_threeChange_181 : decode cX13_threeChange 181 = .ok (.iconst 1, 1) := dw_at cX13_threeChange_k7 (p := 9) rfl (by decide +kernel)
theorem dmX13_threeChange_182 : decode cX13_threeChange 182 = .ok (.iaload, 1) := dw_at cX13_threeChange_k7 (p := 10) rfl (by decide +kernel)
theorem dmX13_threeChange_183 : decode cX13_threeChange 183 = .ok (.aload_n 0, 1) := dw_at cX13_threeChange_k7 (p := 11) rfl (by decide +kernel)
theorem dmX13_threeChange_184 : decode cX13_threeChange 184 = .ok (.getfield 164, 3) := dw_at cX13_threeChange_k7 (p := 12) rfl (by decide +kernel)
theorem dmX13_threeChange_187 : decode cX13_threeChange 187 = .ok (.iconst 2, 1) := dw_at cX13_threeChange_k7 (p := 15) rfl (by decide +kernel)
theorem dmX13_threeChange_188 : decode cX13_threeChange 188 = .ok (.iaload, 1) := dw_at cX13_threeChange_k7 (p := 16) rfl (by decide +kernel)
theorem dmX13_threeChange_189 : decode cX13_threeChange 189 = .ok (.if_icmp .eq 116, 3) := dw_at cX13_threeChange_k7 (p := 17) rfl (by decide +kernel)
theorem dmX13_threeChange_192 : decode cX13_threeChange 192 = .ok (.aload_n 0, 1) := dw_at cX13_threeChange_k7 (p := 20) rfl (by decide +kernel)
theorem dmX13_threeChange_193 : decode cX13_threeChange 193 = .ok (.getfield 121, 3) := dw_at cX13_threeChange_k7 (p := 21) rfl (by decide +kernel)
theorem dmX13_threeChange_196 : decode cX13_threeChange 196 = .ok (.aload_n 1, 1) := dw_at cX13_threeChange_k8 (p := 0) rfl (by decide +kernel)
theorem dmX13_threeChange_197 : decode cX13_threeChange 197 = .ok (.invokevirtual 528, 3) := dw_at cX13_threeChange_k8 (p := 1) rfl (by decide +kernel)
theorem dmX13_threeChange_200 : decode cX13_threeChange 200 = .ok (.iconst 0, 1) := dw_at cX13_threeChange_k8 (p := 4) rfl (by decide +kernel)
theorem dmX13_threeChange_201 : decode cX13_threeChange 201 = .ok (.istore 5, 2) := dw_at cX13_threeChange_k8 (p := 5) rfl (by decide +kernel)
theorem dmX13_threeChange_203 : decode cX13_threeChange 203 = .ok (.iload 5, 2) := dw_at cX13_threeChange_k8 (p := 7) rfl (by decide +kernel)
theorem dmX13_threeChange_205 : decode cX13_threeChange 205 = .ok (.iconst 3, 1) := dw_at cX13_threeChange_k8 (p := 9) rfl (by decide +kernel)
theorem dmX13_threeChange_206 : decode cX13_threeChange 206 = .ok (.if_icmp .ge 95, 3) := dw_at cX13_threeChange_k8 (p := 10) rfl (by decide +kernel)
theorem dmX13_threeChange_209 : decode cX13_threeChange 209 = .ok (.aload_n 0, 1) := dw_at cX13_threeChange_k8 (p := 13) rfl (by decide +kernel)
theorem dmX13_threeChange_210 : decode cX13_threeChange 210 = .ok (.getfield 161, 3) := dw_at cX13_threeChange_k8 (p := 14) rfl (by decide +kernel)
theorem dmX13_threeChange_213 : decode cX13_threeChange 213 = .ok (.iload 5, 2) := dw_at cX13_threeChange_k8 (p := 17) rfl (by decide +kernel)
theorem dmX13_threeChange_215 : decode cX13_threeChange 215 = .ok (.iaload, 1) := dw_at cX13_threeChange_k8 (p := 19) rfl (by decide +kernel)
theorem dmX13_threeChange_216 : decode cX13_threeChange 216 = .ok (.istore 6, 2) := dw_at cX13_threeChange_k8 (p := 20) rfl (by decide +kernel)
theorem dmX13_threeChange_218 : decode cX13_threeChange 218 = .ok (.aload_n 1, 1) := dw_at cX13_threeChange_k8 (p := 22) rfl (by decide +kernel)
theorem dmX13_threeChange_219 : decode cX13_threeChange 219 = .ok (.getfield 38, 3) := dw_at cX13_threeChange_k8 (p := 23) rfl (by decide +kernel)
theorem dmX13_threeChange_222 : decode cX13_threeChange 222 = .ok (.iload 6, 2) := dw_at cX13_threeChange_k9 (p := 0) rfl (by decide +kernel)
theorem dmX13_threeChange_224 : decode cX13_threeChange 224 = .ok (.iaload, 1) := dw_at cX13_threeChange_k9 (p := 2) rfl (by decide +kernel)
theorem dmX13_threeChange_225 : decode cX13_threeChange 225 = .ok (.istore 7, 2) := dw_at cX13_threeChange_k9 (p := 3) rfl (by decide +kernel)
theorem dmX13_threeChange_227 : decode cX13_threeChange 227 = .ok (.aload_n 0, 1) := dw_at cX13_threeChange_k9 (p := 5) rfl (by decide +kernel)
theorem dmX13_threeChange_228 : decode cX13_threeChange 228 = .ok (.getfield 121, 3) := dw_at cX13_threeChange_k9 (p := 6) rfl (by decide +kernel)
theorem dmX13_threeChange_231 : decode cX13_threeChange 231 = .ok (.getfield 23, 3) := dw_at cX13_threeChange_k9 (p := 9) rfl (by decide +kernel)
theorem dmX13_threeChange_234 : decode cX13_threeChange 234 = .ok (.iload 6, 2) := dw_at cX13_threeChange_k9 (p := 12) rfl (by decide +kernel)
theorem dmX13_threeChange_236 : decode cX13_threeChange 236 = .ok (.aload_n 1, 1) := dw_at cX13_threeChange_k9 (p := 14) rfl (by decide +kernel)
theorem dmX13_threeChange_237 : decode cX13_threeChange 237 = .ok (.getfield 23, 3) := dw_at cX13_threeChange_k9 (p := 15) rfl (by decide +kernel)
theorem dmX13_threeChange_240 : decode cX13_threeChange 240 = .ok (.iload 7, 2) := dw_at cX13_threeChange_k9 (p := 18) rfl (by decide +kernel)
theorem dmX13_threeChange_242 : decode cX13_threeChange 242 = .ok (.iaload, 1) := dw_at cX13_threeChange_k9 (p := 20) rfl (by decide +kernel)
theorem dmX13_threeChange_243 : decode cX13_threeChange 243 = .ok (.iastore, 1) := dw_at cX13_threeChange_k9 (p := 21) rfl (by decide +kernel)
theorem dmX13_threeChange_244 : decode cX13_threeChange 244 = .ok (.aload_n 0, 1) := dw_at cX13_threeChange_k9 (p := 22) rfl (by decide +kernel)
theorem dmX13_threeChange_245 : decode cX13_threeChange 245 = .ok (.getfield 121, 3) := dw_at cX13_threeChange_k9 (p := 23) rfl (by decide +kernel)
theorem dmX13_threeChange_248 : decode cX13_threeChange 248 = .ok (.getfield 32, 3) := dw_at cX13_threeChange_k10 (p := 0) rfl (by decide +kernel)
theorem dmX13_threeChange_251 : decode cX13_threeChange 251 = .ok (.iload 6, 2) := dw_at cX13_threeChange_k10 (p := 3) rfl (by decide +kernel)
theorem dmX13_threeChange_253 : decode cX13_threeChange 253 = .ok (.aload_n 1, 1) := dw_at cX13_threeChange_k10 (p := 5) rfl (by decide +kernel)
theorem dmX13_threeChange_254 : decode cX13_threeChange 254 = .ok (.getfield 32, 3) := dw_at cX13_threeChange_k10 (p := 6) rfl (by decide +kernel)
theorem dmX13_threeChange_257 : decode cX13_threeChange 257 = .ok (.iload 7, 2) := dw_at cX13_threeChange_k10 (p := 9) rfl (by decide +kernel)
theorem dmX13_threeChange_259 : decode cX13_threeChange 259 = .ok (.iaload, 1) := dw_at cX13_threeChange_k10 (p := 11) rfl (by decide +kernel)
theorem dmX13_threeChange_260 : decode cX13_threeChange 260 = .ok (.iastore, 1) := dw_at cX13_threeChange_k10 (p := 12) rfl (by decide +kernel)
theorem dmX13_threeChange_261 : decode cX13_threeChange 261 = .ok (.aload_n 0, 1) := dw_at cX13_threeChange_k10 (p := 13) rfl (by decide +kernel)
theorem dmX13_threeChange_262 : decode cX13_threeChange 262 = .ok (.getfield 121, 3) := dw_at cX13_threeChange_k10 (p := 14) rfl (by decide +kernel)
theorem dmX13_threeChange_265 : decode cX13_threeChange 265 = .ok (.getfield 23, 3) := dw_at cX13_threeChange_k10 (p := 17) rfl (by decide +kernel)
theorem dmX13_threeChange_268 : decode cX13_threeChange 268 = .ok (.iload 7, 2) := dw_at cX13_threeChange_k10 (p := 20) rfl (by decide +kernel)
theorem dmX13_threeChange_270 : decode cX13_threeChange 270 = .ok (.aload_n 1, 1) := dw_at cX13_threeChange_k10 (p := 22) rfl (by decide +kernel)
theorem dmX13_threeChange_271 : decode cX13_threeChange 271 = .ok (.getfield 23, 3) := dw_at cX13_threeChange_k10 (p := 23) rfl (by decide +kernel)
theorem dmX13_threeChange_274 : decode cX13_threeChange 274 = .ok (.iload 6, 2) := dw_at cX13_threeChange_k11 (p := 0) rfl (by decide +kernel)
theorem dmX13_threeChange_276 : decode cX13_threeChange 276 = .ok (.iaload, 1) := dw_at cX13_threeChange_k11 (p := 2) rfl (by decide +kernel)
theorem dmX13_threeChange_277 : decode cX13_threeChange 277 = .ok (.iastore, 1) := dw_at cX13_threeChange_k11 (p := 3) rfl (by decide +kernel)
theorem dmX13_threeChange_278 : decode cX13_threeChange 278 = .ok (.aload_n 0, 1) := dw_at cX13_threeChange_k11 (p := 4) rfl (by decide +kernel)
theorem dmX13_threeChange_279 : decode cX13_threeChange 279 = .ok (.getfield 121, 3) := dw_at cX13_threeChange_k11 (p := 5) rfl (by decide +kernel)
theorem dmX13_threeChange_282 : decode cX13_threeChange 282 = .ok (.getfield 32, 3) := dw_at cX13_threeChange_k11 (p := 8) rfl (by decide +kernel)
theorem dmX13_threeChange_285 : decode cX13_threeChange 285 = .ok (.iload 7, 2) := dw_at cX13_threeChange_k11 (p := 11) rfl (by decide +kernel)
theorem dmX13_threeChange_287 : decode cX13_threeChange 287 = .ok (.aload_n 1, 1) := dw_at cX13_threeChange_k11 (p := 13) rfl (by decide +kernel)
theorem dmX13_threeChange_288 : decode cX13_threeChange 288 = .ok (.getfield 32, 3) := dw_at cX13_threeChange_k11 (p := 14) rfl (by decide +kernel)
theorem dmX13_threeChange_291 : decode cX13_threeChange 291 = .ok (.iload 6, 2) := dw_at cX13_threeChange_k11 (p := 17) rfl (by decide +kernel)
theorem dmX13_threeChange_293 : decode cX13_threeChange 293 = .ok (.iaload, 1) := dw_at cX13_threeChange_k11 (p := 19) rfl (by decide +kernel)
theorem dmX13_threeChange_294 : decode cX13_threeChange 294 = .ok (.iastore, 1) := dw_at cX13_threeChange_k11 (p := 20) rfl (by decide +kernel)
theorem dmX13_threeChange_295 : decode cX13_threeChange 295 = .ok (.iinc 5 1, 3) := dw_at cX13_threeChange_k11 (p := 21) rfl (by decide +kernel)
theorem dmX13_threeChange_298 : decode cX13_threeChange 298 = .ok (.goto (-95), 3) := dw_at cX13_threeChange_k12 (p := 0) rfl (by decide +kernel)
theorem dmX13_threeChange_301 : decode cX13_threeChange 301 = .ok (.aload_n 0, 1) := dw_at cX13_threeChange_k12 (p := 3) rfl (by decide +kernel)
theorem dmX13_threeChange_302 : decode cX13_threeChange 302 = .ok (.invokevirtual 491, 3) := dw_at cX13_threeChange_k12 (p := 4) rfl (by decide +kernel)
theorem dmX13_threeChange_305 : decode cX13_threeChange 305 = .ok (.iinc 2 1, 3) := dw_at cX13_threeChange_k12 (p := 7) rfl (by decide +kernel)
theorem dmX13_threeChange_308 : decode cX13_threeChange 308 = .ok (.goto (-302), 3) := dw_at cX13_threeChange_k12 (p := 10) rfl (by decide +kernel)
theorem dmX13_threeChange_311 : decode cX13_threeChange 311 = .ok (.return_, 1) := dw_at cX13_threeChange_k12 (p := 13) rfl (by decide +kernel)
def qm_X13_threeChange_0 (K : Nat) (go : Nat → Int32 → Int32 → Int32 → Int32 → Int32 → Nat → Int32 → Int32 → Int32 → ow_MS → Option ow_MS) (x2 : Int32) (x3 : Int32) (x4 : Int32) (x5 : Int32) (x6 : Int32) (r1 : Nat) (t0 : Int32) (t1 : Int32) (t2 : Int32) (z : ow_MS) : Option ow_MS :=
 cs0 (qe_X12_walk K r1 z) fun z1 => go 1 0 0 0 0 0 r1 0 0 0 z1
def qm_X13_threeChange_1 (K : Nat) (go : Nat → Int32 → Int32 → Int32 → Int32 → Int32 → Nat → Int32 → Int32 → Int32 → ow_MS → Option ow_MS) (x2 : Int32) (x3 : Int32) (x4 : Int32) (x5 : Int32) (x6 : Int32) (r1 : Nat) (t0 : Int32) (t1 : Int32) (t2 : Int32) (z : ow_MS) : Option ow_MS :=
 rdF z (r1 + 16) fun v2 => (if v2 ≤ x2 then some z
 else rdI mX z (r1 + 15) x2 fun v3 => (if v3 = 3 then go 2 x2 0 0 0 0 r1 0 0 0 z
 else go 8 x2 0 0 0 0 r1 0 0 0 z))
def qm_X13_threeChange_2 (K : Nat) (go : Nat → Int32 → Int32 → Int32 → Int32 → Int32 → Nat → Int32 → Int32 → Int32 → ow_MS → Option ow_MS) (x2 : Int32) (x3 : Int32) (x4 : Int32) (x5 : Int32) (x6 : Int32) (r1 : Nat) (t0 : Int32) (t1 : Int32) (t2 : Int32) (z : ow_MS) : Option ow_MS :=
 rdF z (r1 + 1) fun v4 => (if (2 * v4) ≤ x5 then (if x4 = 0 then go 8 x2 0 0 0 0 r1 0 0 0 z
 else rdI mX z 34 0 fun v5 => rdI mX z 34 1 fun v6 => (if v5 = v6 then go 8 x2 0 0 0 0 r1 0 0 0 z
 else rdI mX z 34 0 fun v7 => rdI mX z 34 2 fun v8 => (if v7 = v8 then go 8 x2 0 0 0 0 r1 0 0 0 z
 else rdI mX z 34 1 fun v9 => rdI mX z 34 2 fun v10 => (if v9 = v10 then go 8 x2 0 0 0 0 r1 0 0 0 z
 else cs0 (qe_X12_copy K 3000 r1 z) fun z11 => go 7 x2 x3 x4 0 0 r1 0 0 0 z11))))
 else rdI mX z (r1 + 14) x5 fun v12 => (if v12 = x2 then wrI mX z 33 x3 ((x5 : Int32) >>> ((1 : Int32) &&& 31)) fun z13 => (if (x5 &&& 1) = 0 then rdI mX z13 (r1 + 9) ((x5 : Int32) >>> ((1 : Int32) &&& 31)) fun v14 => go 3 x2 x3 x4 x5 ((x5 : Int32) >>> ((1 : Int32) &&& 31)) r1 v14 0 x3 z13
 else go 3 x2 x3 x4 x5 ((x5 : Int32) >>> ((1 : Int32) &&& 31)) r1 ((x5 : Int32) >>> ((1 : Int32) &&& 31)) 0 x3 z13)
 else go 6 x2 x3 x4 x5 0 r1 0 0 0 z))
def qm_X13_threeChange_3 (K : Nat) (go : Nat → Int32 → Int32 → Int32 → Int32 → Int32 → Nat → Int32 → Int32 → Int32 → ow_MS → Option ow_MS) (x2 : Int32) (x3 : Int32) (x4 : Int32) (x5 : Int32) (x6 : Int32) (r1 : Nat) (t0 : Int32) (t1 : Int32) (t2 : Int32) (z : ow_MS) : Option ow_MS :=
 rdI mX z (r1 + 4) t0 fun v15 => wrI mX z 34 t2 v15 fun z16 => rdI mX z16 (r1 + 5) x6 fun v17 => (if v17 = 0 then rdI mX z16 (r1 + 9) x6 fun v18 => rdI mX z16 (r1 + 5) v18 fun v19 => (if v19 = 0 then go 5 x2 x3 x4 x5 x6 r1 1 x4 0 z16
 else go 4 x2 x3 x4 x5 x6 r1 x4 0 0 z16)
 else go 4 x2 x3 x4 x5 x6 r1 x4 0 0 z16)
def qm_X13_threeChange_4 (K : Nat) (go : Nat → Int32 → Int32 → Int32 → Int32 → Int32 → Nat → Int32 → Int32 → Int32 → ow_MS → Option ow_MS) (x2 : Int32) (x3 : Int32) (x4 : Int32) (x5 : Int32) (x6 : Int32) (r1 : Nat) (t0 : Int32) (t1 : Int32) (t2 : Int32) (z : ow_MS) : Option ow_MS :=
 go 5 x2 x3 x4 x5 x6 r1 0 t0 0 z
def qm_X13_threeChange_5 (K : Nat) (go : Nat → Int32 → Int32 → Int32 → Int32 → Int32 → Nat → Int32 → Int32 → Int32 → ow_MS → Option ow_MS) (x2 : Int32) (x3 : Int32) (x4 : Int32) (x5 : Int32) (x6 : Int32) (r1 : Nat) (t0 : Int32) (t1 : Int32) (t2 : Int32) (z : ow_MS) : Option ow_MS :=
 go 6 x2 (x3 + 1) (t1 ||| t0) x5 0 r1 0 0 0 z
def qm_X13_threeChange_6 (K : Nat) (go : Nat → Int32 → Int32 → Int32 → Int32 → Int32 → Nat → Int32 → Int32 → Int32 → ow_MS → Option ow_MS) (x2 : Int32) (x3 : Int32) (x4 : Int32) (x5 : Int32) (x6 : Int32) (r1 : Nat) (t0 : Int32) (t1 : Int32) (t2 : Int32) (z : ow_MS) : Option ow_MS :=
 go 2 x2 x3 x4 (x5 + 1) 0 r1 0 0 0 z
def qm_X13_threeChange_7 (K : Nat) (go : Nat → Int32 → Int32 → Int32 → Int32 → Int32 → Nat → Int32 → Int32 → Int32 → ow_MS → Option ow_MS) (x2 : Int32) (x3 : Int32) (x4 : Int32) (x5 : Int32) (x6 : Int32) (r1 : Nat) (t0 : Int32) (t1 : Int32) (t2 : Int32) (z : ow_MS) : Option ow_MS :=
 (if 3 ≤ x5 then cs0 (qe_X13_offer K z) fun z20 => go 8 x2 0 0 0 0 r1 0 0 0 z20
 else rdI mX z 33 x5 fun v21 => rdI mX z (r1 + 9) v21 fun v22 => rdI mX z (r1 + 4) v22 fun v23 => wrI mX z (3000 + 4) v21 v23 fun z24 => rdI mX z24 (r1 + 5) v22 fun v25 => wrI mX z24 (3000 + 5) v21 v25 fun z26 => rdI mX z26 (r1 + 4) v21 fun v27 => wrI mX z26 (3000 + 4) v22 v27 fun z28 => rdI mX z28 (r1 + 5) v21 fun v29 => wrI mX z28 (3000 + 5) v22 v29 fun z30 => go 7 x2 x3 x4 (x5 + 1) 0 r1 0 0 0 z30)
def qm_X13_threeChange_8 (K : Nat) (go : Nat → Int32 → Int32 → Int32 → Int32 → Int32 → Nat → Int32 → Int32 → Int32 → ow_MS → Option ow_MS) (x2 : Int32) (x3 : Int32) (x4 : Int32) (x5 : Int32) (x6 : Int32) (r1 : Nat) (t0 : Int32) (t1 : Int32) (t2 : Int32) (z : ow_MS) : Option ow_MS :=
 go 1 (x2 + 1) 0 0 0 0 r1 0 0 0 z
def qb_X13_threeChange (K : Nat) (go : Nat → Int32 → Int32 → Int32 → Int32 → Int32 → Nat → Int32 → Int32 → Int32 → ow_MS → Option ow_MS) (L : Nat) (x2 : Int32) (x3 : Int32) (x4 : Int32) (x5 : Int32) (x6 : Int32) (r1 : Nat) (t0 : Int32) (t1 : Int32) (t2 : Int32) (z : ow_MS) : Option ow_MS := match L with
  | 0 => qm_X13_threeChange_0 K go x2 x3 x4 x5 x6 r1 t0 t1 t2 z
  | 1 => qm_X13_threeChange_1 K go x2 x3 x4 x5 x6 r1 t0 t1 t2 z
  | 2 => qm_X13_threeChange_2 K go x2 x3 x4 x5 x6 r1 t0 t1 t2 z
  | 3 => qm_X13_threeChange_3 K go x2 x3 x4 x5 x6 r1 t0 t1 t2 z
  | 4 => qm_X13_threeChange_4 K go x2 x3 x4 x5 x6 r1 t0 t1 t2 z
  | 5 => qm_X13_threeChange_5 K go x2 x3 x4 x5 x6 r1 t0 t1 t2 z
  | 6 => qm_X13_threeChange_6 K go x2 x3 x4 x5 x6 r1 t0 t1 t2 z
  | 7 => qm_X13_threeChange_7 K go x2 x3 x4 x5 x6 r1 t0 t1 t2 z
  | 8 => qm_X13_threeChange_8 K go x2 x3 x4 x5 x6 r1 t0 t1 t2 z
  | _ => none
def q_X13_threeChange (K : Nat) : Nat → Nat → Int32 → Int32 → Int32 → Int32 → Int32 → Nat → Int32 → Int32 → Int32 → ow_MS → Option ow_MS
  | 0 => fun _ _ _ _ _ _ _ _ _ _ _ => none
  | k + 1 => qb_X13_threeChange K (q_X13_threeChange K k)
def qe_X13_threeChange (K : Nat) (r1 : Nat) (z : ow_MS) : Option ow_MS := q_X13_threeChange K K 0 0 0 0 0 0 r1 0 0 0 z
abbrev wm_X13_threeChange : List Cond := .code yX13_threeChange cX13_threeChange 8 none :: wM
theorem cd_X13_threeChange : yX13_threeChange.cls = RX13 ∧ yX13_threeChange.cls ≠ "java/lang/invoke/MethodHandle" ∧ yX13_threeChange.cls ≠ "java/lang/invoke/VarHandle" ∧ (parseMethodDescriptor yX13_threeChange.desc).map (fun d => d.parameters.length) = some 1 := by decide +kernel
set_option maxHeartbeats 4000000 in
set_option maxRecDepth 100000 in
theorem km_X13_threeChange (l : Launch) (D : va_G) (q : ow_Q5) (u : Nat → Nat) (hU : tw_inj mX u) (K : Nat) (r1 : Nat) (hr1 : mw_net r1) (z z1 : ow_MS) (hq : qe_X13_threeChange K r1 z = some z1) : Met l yX13_threeChange wm_X13_threeChange ({ frames := 5, cells := 0, slots := 0, locals := 131 } : Room) (va_Pc [.ref (u 0), .ref (u r1)] (mw_pre D q u z)) (va_Qv (fun (_ : Unit) => True) (fun _ t => va_P D vwCl (tw mX q u z1) t.heap) (tw_A mX u)) 0 0 (tw_A mX u) := by
  refine Met.ofW (cc := cX13_threeChange) (maxL := 8) (ret := none) (by decide) rfl ?_
  intro p e s m args below meth c s₁ B hml hv
  obtain ⟨rfl, hP, hK, hN⟩ := hv
  have hx := B.exec
  have hb := B.bytes
  have hr := B.returns
  have hts := atoms_spec (ws := wm_X13_threeChange) B.pre
  have hT : ∀ w ∈ wM, w.before ([.ref (u 0), .ref (u r1)] : List Value).toArray s = true := fun w h => hts w (List.mem_cons_of_mem _ h)
  have hown : s.vm.findClass RX13 = some m.cls := findClass_of_methodNamed B.named
  have hlocks := B.notSynchronized
  have hM : tw_M D vwCl mX q s.heap u z s.heap [] := ⟨hP, va_S.rf⟩
  have hl := lv_entry ([.ref (u 0), .ref (u r1)]) (n := 8) (Nat.le_of_ble_eq_true rfl)
  rw [lg_entry_eq]
  generalize (lg_sl ([.ref (u 0), .ref (u r1)]) ++ List.replicate (8 - (lg_sl ([.ref (u 0), .ref (u r1)])).length) Slot.unset).toArray = ls at hl ⊢
  have hl : lv_has ls 8 [(0, .ref (u 0)), (1, .ref (u r1))] := hl
  refine ow_named (fun QQ hQQ => ?_)
  generalize ([.ref (u 0), .ref (u r1)] : List Value).toArray = args at hts hT hQQ ⊢
  have key : ∀ k : Nat, (∀ (x2 : Int32) (x3 : Int32) (x4 : Int32) (x5 : Int32) (x6 : Int32) (r1 : Nat) (t0 : Int32) (t1 : Int32) (t2 : Int32) (z : ow_MS) (H : Heap) (locs : List Loc) (ls : Array Slot), mw_net r1 → tw_M D vwCl mX q s.heap u z H locs → lv_has ls 8 [(0, .ref (u 0)), (1, .ref (u r1))] → q_X13_threeChange K k 0 x2 x3 x4 x5 x6 r1 t0 t1 t2 z = some z1 → W p l e ({ frames := 5, cells := 0, slots := 0, locals := 131 } : Room) s m args below meth c H locs 0 0 QQ (F0 m 0 ls [])) ∧ (∀ (x2 : Int32) (x3 : Int32) (x4 : Int32) (x5 : Int32) (x6 : Int32) (r1 : Nat) (t0 : Int32) (t1 : Int32) (t2 : Int32) (z : ow_MS) (H : Heap) (locs : List Loc) (ls : Array Slot), mw_net r1 → tw_M D vwCl mX q s.heap u z H locs → lv_has ls 8 [(0, .ref (u 0)), (1, .ref (u r1)), (2, .int x2)] → q_X13_threeChange K k 1 x2 x3 x4 x5 x6 r1 t0 t1 t2 z = some z1 → W p l e ({ frames := 5, cells := 0, slots := 0, locals := 131 } : Room) s m args below meth c H locs 0 0 QQ (F0 m 6 ls [])) ∧ (∀ (x2 : Int32) (x3 : Int32) (x4 : Int32) (x5 : Int32) (x6 : Int32) (r1 : Nat) (t0 : Int32) (t1 : Int32) (t2 : Int32) (z : ow_MS) (H : Heap) (locs : List Loc) (ls : Array Slot), mw_net r1 → tw_M D vwCl mX q s.heap u z H locs → lv_has ls 8 [(0, .ref (u 0)), (1, .ref (u r1)), (2, .int x2), (3, .int x3), (4, .int x4), (5, .int x5)] → q_X13_threeChange K k 2 x2 x3 x4 x5 x6 r1 t0 t1 t2 z = some z1 → W p l e ({ frames := 5, cells := 0, slots := 0, locals := 131 } : Room) s m args below meth c H locs 0 0 QQ (F0 m 32 ls [])) ∧ (∀ (x2 : Int32) (x3 : Int32) (x4 : Int32) (x5 : Int32) (x6 : Int32) (r1 : Nat) (t0 : Int32) (t1 : Int32) (t2 : Int32) (z : ow_MS) (H : Heap) (locs : List Loc) (ls : Array Slot), mw_net r1 → tw_M D vwCl mX q s.heap u z H locs → lv_has ls 8 [(0, .ref (u 0)), (1, .ref (u r1)), (2, .int x2), (3, .int x3), (4, .int x4), (5, .int x5), (6, .int x6)] → q_X13_threeChange K k 3 x2 x3 x4 x5 x6 r1 t0 t1 t2 z = some z1 → W p l e ({ frames := 5, cells := 0, slots := 0, locals := 131 } : Room) s m args below meth c H locs 0 0 QQ (F0 m 96 ls [.int t0, .ref (u (r1 + 4)), .int t2, .ref (u 34)])) ∧ (∀ (x2 : Int32) (x3 : Int32) (x4 : Int32) (x5 : Int32) (x6 : Int32) (r1 : Nat) (t0 : Int32) (t1 : Int32) (t2 : Int32) (z : ow_MS) (H : Heap) (locs : List Loc) (ls : Array Slot), mw_net r1 → tw_M D vwCl mX q s.heap u z H locs → lv_has ls 8 [(0, .ref (u 0)), (1, .ref (u r1)), (2, .int x2), (3, .int x3), (4, .int x4), (5, .int x5), (6, .int x6)] → q_X13_threeChange K k 4 x2 x3 x4 x5 x6 r1 t0 t1 t2 z = some z1 → W p l e ({ frames := 5, cells := 0, slots := 0, locals := 131 } : Room) s m args below meth c H locs 0 0 QQ (F0 m 129 ls [.int t0])) ∧ (∀ (x2 : Int32) (x3 : Int32) (x4 : Int32) (x5 : Int32) (x6 : Int32) (r1 : Nat) (t0 : Int32) (t1 : Int32) (t2 : Int32) (z : ow_MS) (H : Heap) (locs : List Loc) (ls : Array Slot), mw_net r1 → tw_M D vwCl mX q s.heap u z H locs → lv_has ls 8 [(0, .ref (u 0)), (1, .ref (u r1)), (2, .int x2), (3, .int x3), (4, .int x4), (5, .int x5), (6, .int x6)] → q_X13_threeChange K k 5 x2 x3 x4 x5 x6 r1 t0 t1 t2 z = some z1 → W p l e ({ frames := 5, cells := 0, slots := 0, locals := 131 } : Room) s m args below meth c H locs 0 0 QQ (F0 m 130 ls [.int t0, .int t1])) ∧ (∀ (x2 : Int32) (x3 : Int32) (x4 : Int32) (x5 : Int32) (x6 : Int32) (r1 : Nat) (t0 : Int32) (t1 : Int32) (t2 : Int32) (z : ow_MS) (H : Heap) (locs : List Loc) (ls : Array Slot), mw_net r1 → tw_M D vwCl mX q s.heap u z H locs → lv_has ls 8 [(0, .ref (u 0)), (1, .ref (u r1)), (2, .int x2), (3, .int x3), (4, .int x4), (5, .int x5)] → q_X13_threeChange K k 6 x2 x3 x4 x5 x6 r1 t0 t1 t2 z = some z1 → W p l e ({ frames := 5, cells := 0, slots := 0, locals := 131 } : Room) s m args below meth c H locs 0 0 QQ (F0 m 136 ls [])) ∧ (∀ (x2 : Int32) (x3 : Int32) (x4 : Int32) (x5 : Int32) (x6 : Int32) (r1 : Nat) (t0 : Int32) (t1 : Int32) (t2 : Int32) (z : ow_MS) (H : Heap) (locs : List Loc) (ls : Array Slot), mw_net r1 → tw_M D vwCl mX q s.heap u z H locs → lv_has ls 8 [(0, .ref (u 0)), (1, .ref (u r1)), (2, .int x2), (3, .int x3), (4, .int x4), (5, .int x5)] → q_X13_threeChange K k 7 x2 x3 x4 x5 x6 r1 t0 t1 t2 z = some z1 → W p l e ({ frames := 5, cells := 0, slots := 0, locals := 131 } : Room) s m args below meth c H locs 0 0 QQ (F0 m 203 ls [])) ∧ (∀ (x2 : Int32) (x3 : Int32) (x4 : Int32) (x5 : Int32) (x6 : Int32) (r1 : Nat) (t0 : Int32) (t1 : Int32) (t2 : Int32) (z : ow_MS) (H : Heap) (locs : List Loc) (ls : Array Slot), mw_net r1 → tw_M D vwCl mX q s.heap u z H locs → lv_has ls 8 [(0, .ref (u 0)), (1, .ref (u r1)), (2, .int x2)] → q_X13_threeChange K k 8 x2 x3 x4 x5 x6 r1 t0 t1 t2 z = some z1 → W p l e ({ frames := 5, cells := 0, slots := 0, locals := 131 } : Room) s m args below meth c H locs 0 0 QQ (F0 m 305 ls [])) := by
    intro k
    induction k with
    | zero => exact ⟨fun _ _ _ _ _ _ _ _ _ _ _ _ _ _ _ _ hq => tw_no hq, fun _ _ _ _ _ _ _ _ _ _ _ _ _ _ _ _ hq => tw_no hq, fun _ _ _ _ _ _ _ _ _ _ _ _ _ _ _ _ hq => tw_no hq, fun _ _ _ _ _ _ _ _ _ _ _ _ _ _ _ _ hq => tw_no hq, fun _ _ _ _ _ _ _ _ _ _ _ _ _ _ _ _ hq => tw_no hq, fun _ _ _ _ _ _ _ _ _ _ _ _ _ _ _ _ hq => tw_no hq, fun _ _ _ _ _ _ _ _ _ _ _ _ _ _ _ _ hq => tw_no hq, fun _ _ _ _ _ _ _ _ _ _ _ _ _ _ _ _ hq => tw_no hq, fun _ _ _ _ _ _ _ _ _ _ _ _ _ _ _ _ hq => tw_no hq⟩
    | succ k ih =>
      obtain ⟨ih_0, ih_1, ih_2, ih_3, ih_4, ih_5, ih_6, ih_7, ih_8⟩ := ih
      refine ⟨?_, ?_, ?_, ?_, ?_, ?_, ?_, ?_, ?_⟩
      · intro x2 x3 x4 x5 x6 r1 t0 t1 t2 z H locs ls hr1 hM hl hq
        have hq : qm_X13_threeChange_0 K (q_X13_threeChange K k) x2 x3 x4 x5 x6 r1 t0 t1 t2 z = some z1 := hq
        unfold qm_X13_threeChange_0 at hq
        refine lv_aload_n hx hb dmX13_threeChange_0 rfl (lv_at hl 1 rfl) ?_
        obtain ⟨z1, hcq, hq⟩ := tw_cl0 hq
        refine tw_calv hM (va_runV (As := []) (rest := []) ⟨hx, hb, hml, hown, hts⟩ (km_X12_walk l D q u hU K r1 hr1 z z1 hcq) (cwV 0 hts (tw_gV wM_good wq_225 wq_42 wq_43 wq_13 wq_37) rfl rfl rfl cd_X12_walk ⟨(Nat.le_of_ble_eq_true rfl), (Nat.le_of_ble_eq_true rfl)⟩) (mw_preV hK hN hM (mo_n hr1) rfl) rfl rfl hl.1 rfl (lv_room (Nat.le_of_ble_eq_true rfl)) dmX13_threeChange_1 ⟨(Nat.le_of_ble_eq_true rfl), (Nat.le_of_ble_eq_true rfl)⟩) (fun H locs hM => ?_)
        refine lv_iconst (v := 0) hx hb dmX13_threeChange_4 (by decide) ?_
        refine lv_istore_n (lv' := [(2, .int 0), (0, .ref (u 0)), (1, .ref (u r1))]) hx hb dmX13_threeChange_5 rfl hl (by decide) rfl (fun ls hl => ?_)
        exact ih_1 0 0 0 0 0 r1 0 0 0 z1 H locs ls hr1 hM (lv_sub hl [1, 2, 0] rfl) hq
      · intro x2 x3 x4 x5 x6 r1 t0 t1 t2 z H locs ls hr1 hM hl hq
        have hq : qm_X13_threeChange_1 K (q_X13_threeChange K k) x2 x3 x4 x5 x6 r1 t0 t1 t2 z = some z1 := hq
        unfold qm_X13_threeChange_1 at hq
        refine lv_iload_n hx hb dmX13_threeChange_6 rfl (lv_at hl 2 rfl) ?_
        refine lv_aload_n hx hb dmX13_threeChange_7 rfl (lv_at hl 1 rfl) ?_
        refine mg13_519 hx hb hT hown hK hM hN hr1 hq dmX13_threeChange_8 (fun v2 hq => ?_)
        refine lv_icmp_ge (tgt := 311) hx hb dmX13_threeChange_11 (by decide) (fun hc => ?_) (fun hc => ?_)
        · have hq := tw_it hq hc
          exact mw_vret hx hb hr hlocks hM hq hQQ dmX13_threeChange_311
        · have hq := tw_if hq hc
          refine lv_aload_n hx hb dmX13_threeChange_14 rfl (lv_at hl 1 rfl) ?_
          refine mg13_522 hx hb hT hown hK hM hN hr1 dmX13_threeChange_15 ?_
          refine lv_iload_n hx hb dmX13_threeChange_18 rfl (lv_at hl 2 rfl) ?_
          refine tw_iald mX_ok hx hb hK hM (mrn_15 hr1) hq dmX13_threeChange_19 (fun v3 hq => ?_)
          refine lv_iconst (v := 3) hx hb dmX13_threeChange_20 (by decide) ?_
          refine lv_icmp_ne (tgt := 305) hx hb dmX13_threeChange_21 (by decide) (fun hc => ?_) (fun hc => ?_)
          · have hq := tw_if hq hc
            exact ih_8 x2 0 0 0 0 r1 0 0 0 z H locs ls hr1 hM (lv_sub hl [0, 1, 2] rfl) hq
          · have hq := tw_it hq hc
            refine lv_iconst (v := 0) hx hb dmX13_threeChange_24 (by decide) ?_
            refine lv_istore_n (lv' := [(3, .int 0), (0, .ref (u 0)), (1, .ref (u r1)), (2, .int x2)]) hx hb dmX13_threeChange_25 rfl hl (by decide) rfl (fun ls hl => ?_)
            refine lv_iconst (v := 0) hx hb dmX13_threeChange_26 (by decide) ?_
            refine lv_istore (lv' := [(4, .int 0), (3, .int 0), (0, .ref (u 0)), (1, .ref (u r1)), (2, .int x2)]) hx hb dmX13_threeChange_27 hl (by decide) rfl (fun ls hl => ?_)
            refine lv_iconst (v := 0) hx hb dmX13_threeChange_29 (by decide) ?_
            refine lv_istore (lv' := [(5, .int 0), (4, .int 0), (3, .int 0), (0, .ref (u 0)), (1, .ref (u r1)), (2, .int x2)]) hx hb dmX13_threeChange_30 hl (by decide) rfl (fun ls hl => ?_)
            exact ih_2 x2 0 0 0 0 r1 0 0 0 z H locs ls hr1 hM (lv_sub hl [3, 4, 5, 2, 1, 0] rfl) hq
      · intro x2 x3 x4 x5 x6 r1 t0 t1 t2 z H locs ls hr1 hM hl hq
        have hq : qm_X13_threeChange_2 K (q_X13_threeChange K k) x2 x3 x4 x5 x6 r1 t0 t1 t2 z = some z1 := hq
        unfold qm_X13_threeChange_2 at hq
        refine lv_iload hx hb dmX13_threeChange_32 (lv_at hl 5 rfl) ?_
        refine lv_iconst (v := 2) hx hb dmX13_threeChange_34 (by decide) ?_
        refine lv_aload_n hx hb dmX13_threeChange_35 rfl (lv_at hl 1 rfl) ?_
        refine mg13_44 hx hb hT hown hK hM hN hr1 hq dmX13_threeChange_36 (fun v4 hq => ?_)
        refine lv_imul hx hb dmX13_threeChange_39 ?_
        refine lv_icmp_ge (tgt := 142) hx hb dmX13_threeChange_40 (by decide) (fun hc => ?_) (fun hc => ?_)
        · have hq := tw_it hq hc
          refine lv_iload hx hb dmX13_threeChange_142 (lv_at hl 4 rfl) ?_
          refine lv_if_eq (tgt := 305) hx hb dmX13_threeChange_144 (by decide) (fun hc => ?_) (fun hc => ?_)
          · have hq := tw_it hq hc
            exact ih_8 x2 0 0 0 0 r1 0 0 0 z H locs ls hr1 hM (lv_sub hl [0, 1, 2] rfl) hq
          · have hq := tw_if hq hc
            refine lv_aload_n hx hb dmX13_threeChange_147 rfl (lv_at hl 0 rfl) ?_
            refine mg13_164 hx hb hT hown hK hM dmX13_threeChange_148 ?_
            refine lv_iconst (v := 0) hx hb dmX13_threeChange_151 (by decide) ?_
            refine tw_iald mX_ok hx hb hK hM mr_34 hq dmX13_threeChange_152 (fun v5 hq => ?_)
            refine lv_aload_n hx hb dmX13_threeChange_153 rfl (lv_at hl 0 rfl) ?_
            refine mg13_164 hx hb hT hown hK hM dmX13_threeChange_154 ?_
            refine lv_iconst (v := 1) hx hb dmX13_threeChange_157 (by decide) ?_
            refine tw_iald mX_ok hx hb hK hM mr_34 hq dmX13_threeChange_158 (fun v6 hq => ?_)
            refine lv_icmp_eq (tgt := 305) hx hb dmX13_threeChange_159 (by decide) (fun hc => ?_) (fun hc => ?_)
            · have hq := tw_it hq hc
              exact ih_8 x2 0 0 0 0 r1 0 0 0 z H locs ls hr1 hM (lv_sub hl [0, 1, 2] rfl) hq
            · have hq := tw_if hq hc
              refine lv_aload_n hx hb dmX13_threeChange_162 rfl (lv_at hl 0 rfl) ?_
              refine mg13_164 hx hb hT hown hK hM dmX13_threeChange_163 ?_
              refine lv_iconst (v := 0) hx hb dmX13_threeChange_166 (by decide) ?_
              refine tw_iald mX_ok hx hb hK hM mr_34 hq dmX13_threeChange_167 (fun v7 hq => ?_)
              refine lv_aload_n hx hb dmX13_threeChange_168 rfl (lv_at hl 0 rfl) ?_
              refine mg13_164 hx hb hT hown hK hM dmX13_threeChange_169 ?_
              refine lv_iconst (v := 2) hx hb dmX13_threeChange_172 (by decide) ?_
              refine tw_iald mX_ok hx hb hK hM mr_34 hq dmX13_threeChange_173 (fun v8 hq => ?_)
              refine lv_icmp_eq (tgt := 305) hx hb dmX13_threeChange_174 (by decide) (fun hc => ?_) (fun hc => ?_)
              · have hq := tw_it hq hc
                exact ih_8 x2 0 0 0 0 r1 0 0 0 z H locs ls hr1 hM (lv_sub hl [0, 1, 2] rfl) hq
              · have hq := tw_if hq hc
                refine lv_aload_n hx hb dmX13_threeChange_177 rfl (lv_at hl 0 rfl) ?_
                refine mg13_164 hx hb hT hown hK hM dmX13_threeChange_178 ?_
                refine lv_iconst (v := 1) hx hb dmX13_threeChange_181 (by decide) ?_
                refine tw_iald mX_ok hx hb hK hM mr_34 hq dmX13_threeChange_182 (fun v9 hq => ?_)
                refine lv_aload_n hx hb dmX13_threeChange_183 rfl (lv_at hl 0 rfl) ?_
                refine mg13_164 hx hb hT hown hK hM dmX13_threeChange_184 ?_
                refine lv_iconst (v := 2) hx hb dmX13_threeChange_187 (by decide) ?_
                refine tw_iald mX_ok hx hb hK hM mr_34 hq dmX13_threeChange_188 (fun v10 hq => ?_)
                refine lv_icmp_eq (tgt := 305) hx hb dmX13_threeChange_189 (by decide) (fun hc => ?_) (fun hc => ?_)
                · have hq := tw_it hq hc
                  exact ih_8 x2 0 0 0 0 r1 0 0 0 z H locs ls hr1 hM (lv_sub hl [0, 1, 2] rfl) hq
                · have hq := tw_if hq hc
                  refine lv_aload_n hx hb dmX13_threeChange_192 rfl (lv_at hl 0 rfl) ?_
                  refine mg13_121 hx hb hT hown hK hM dmX13_threeChange_193 ?_
                  refine lv_aload_n hx hb dmX13_threeChange_196 rfl (lv_at hl 1 rfl) ?_
                  obtain ⟨z11, hcq, hq⟩ := tw_cl0 hq
                  refine tw_calv hM (va_runV (As := [.ref (u r1)]) (rest := []) ⟨hx, hb, hml, hown, hts⟩ (km_X12_copy l D q u hU K 3000 r1 mw_n3 hr1 z z11 hcq) (cwV 1 hts (tw_gV wM_good wq_226 wq_227 wq_228 wq_13 wq_23) rfl rfl rfl cd_X12_copy ⟨(Nat.le_of_ble_eq_true rfl), (Nat.le_of_ble_eq_true rfl)⟩) (mw_preV hK hN hM (mo_n mw_n3) rfl) rfl rfl hl.1 rfl (lv_room (Nat.le_of_ble_eq_true rfl)) dmX13_threeChange_197 ⟨(Nat.le_of_ble_eq_true rfl), (Nat.le_of_ble_eq_true rfl)⟩) (fun H locs hM => ?_)
                  refine lv_iconst (v := 0) hx hb dmX13_threeChange_200 (by decide) ?_
                  refine lv_istore (lv' := [(5, .int 0), (0, .ref (u 0)), (1, .ref (u r1)), (2, .int x2), (3, .int x3), (4, .int x4)]) hx hb dmX13_threeChange_201 hl (by decide) rfl (fun ls hl => ?_)
                  exact ih_7 x2 x3 x4 0 0 r1 0 0 0 z11 H locs ls hr1 hM (lv_sub hl [1, 2, 3, 4, 5, 0] rfl) hq
        · have hq := tw_if hq hc
          refine lv_aload_n hx hb dmX13_threeChange_43 rfl (lv_at hl 1 rfl) ?_
          refine mg13_525 hx hb hT hown hK hM hN hr1 dmX13_threeChange_44 ?_
          refine lv_iload hx hb dmX13_threeChange_47 (lv_at hl 5 rfl) ?_
          refine tw_iald mX_ok hx hb hK hM (mrn_14 hr1) hq dmX13_threeChange_49 (fun v12 hq => ?_)
          refine lv_iload_n hx hb dmX13_threeChange_50 rfl (lv_at hl 2 rfl) ?_
          refine lv_icmp_ne (tgt := 136) hx hb dmX13_threeChange_51 (by decide) (fun hc => ?_) (fun hc => ?_)
          · have hq := tw_if hq hc
            exact ih_6 x2 x3 x4 x5 0 r1 0 0 0 z H locs ls hr1 hM (lv_sub hl [0, 1, 2, 3, 4, 5] rfl) hq
          · have hq := tw_it hq hc
            refine lv_iload hx hb dmX13_threeChange_54 (lv_at hl 5 rfl) ?_
            refine lv_iconst (v := 1) hx hb dmX13_threeChange_56 (by decide) ?_
            refine lv_ishr hx hb dmX13_threeChange_57 ?_
            refine lv_istore (lv' := [(6, .int ((x5 : Int32) >>> ((1 : Int32) &&& 31))), (0, .ref (u 0)), (1, .ref (u r1)), (2, .int x2), (3, .int x3), (4, .int x4), (5, .int x5)]) hx hb dmX13_threeChange_58 hl (by decide) rfl (fun ls hl => ?_)
            refine lv_aload_n hx hb dmX13_threeChange_60 rfl (lv_at hl 1 rfl) ?_
            refine mg13_161 hx hb hT hown hK hM dmX13_threeChange_61 ?_
            refine lv_iload_n hx hb dmX13_threeChange_64 rfl (lv_at hl 4 rfl) ?_
            refine lv_iload hx hb dmX13_threeChange_65 (lv_at hl 0 rfl) ?_
            refine tw_iast mX_ok hU hx hb hK hM mr_33 hq dmX13_threeChange_67 (fun z13 H locs hM hq => ?_)
            refine lv_aload_n hx hb dmX13_threeChange_68 rfl (lv_at hl 1 rfl) ?_
            refine mg13_164 hx hb hT hown hK hM dmX13_threeChange_69 ?_
            refine lv_iload_n hx hb dmX13_threeChange_72 rfl (lv_at hl 4 rfl) ?_
            refine lv_aload_n hx hb dmX13_threeChange_73 rfl (lv_at hl 2 rfl) ?_
            refine mg13_23 hx hb hT hown hK hM hN hr1 dmX13_threeChange_74 ?_
            refine lv_iload hx hb dmX13_threeChange_77 (lv_at hl 6 rfl) ?_
            refine lv_iconst (v := 1) hx hb dmX13_threeChange_79 (by decide) ?_
            refine lv_iand hx hb dmX13_threeChange_80 ?_
            refine lv_if_ne (tgt := 94) hx hb dmX13_threeChange_81 (by decide) (fun hc => ?_) (fun hc => ?_)
            · have hq := tw_if hq hc
              refine lv_iload hx hb dmX13_threeChange_94 (lv_at hl 0 rfl) ?_
              exact ih_3 x2 x3 x4 x5 ((x5 : Int32) >>> ((1 : Int32) &&& 31)) r1 ((x5 : Int32) >>> ((1 : Int32) &&& 31)) 0 x3 z13 H locs ls hr1 hM (lv_sub hl [1, 2, 3, 4, 5, 6, 0] rfl) hq
            · have hq := tw_it hq hc
              refine lv_aload_n hx hb dmX13_threeChange_84 rfl (lv_at hl 2 rfl) ?_
              refine mg13_38 hx hb hT hown hK hM hN hr1 dmX13_threeChange_85 ?_
              refine lv_iload hx hb dmX13_threeChange_88 (lv_at hl 0 rfl) ?_
              refine tw_iald mX_ok hx hb hK hM (mrn_9 hr1) hq dmX13_threeChange_90 (fun v14 hq => ?_)
              refine lv_goto (tgt := 96) hx hb dmX13_threeChange_91 (by decide) ?_
              exact ih_3 x2 x3 x4 x5 ((x5 : Int32) >>> ((1 : Int32) &&& 31)) r1 v14 0 x3 z13 H locs ls hr1 hM (lv_sub hl [1, 2, 3, 4, 5, 6, 0] rfl) hq
      · intro x2 x3 x4 x5 x6 r1 t0 t1 t2 z H locs ls hr1 hM hl hq
        have hq : qm_X13_threeChange_3 K (q_X13_threeChange K k) x2 x3 x4 x5 x6 r1 t0 t1 t2 z = some z1 := hq
        unfold qm_X13_threeChange_3 at hq
        refine tw_iald mX_ok hx hb hK hM (mrn_4 hr1) hq dmX13_threeChange_96 (fun v15 hq => ?_)
        refine tw_iast mX_ok hU hx hb hK hM mr_34 hq dmX13_threeChange_97 (fun z16 H locs hM hq => ?_)
        refine lv_iload hx hb dmX13_threeChange_98 (lv_at hl 4 rfl) ?_
        refine lv_aload_n hx hb dmX13_threeChange_100 rfl (lv_at hl 1 rfl) ?_
        refine mg13_32 hx hb hT hown hK hM hN hr1 dmX13_threeChange_101 ?_
        refine lv_iload hx hb dmX13_threeChange_104 (lv_at hl 6 rfl) ?_
        refine tw_iald mX_ok hx hb hK hM (mrn_5 hr1) hq dmX13_threeChange_106 (fun v17 hq => ?_)
        refine lv_if_ne (tgt := 129) hx hb dmX13_threeChange_107 (by decide) (fun hc => ?_) (fun hc => ?_)
        · have hq := tw_if hq hc
          exact ih_4 x2 x3 x4 x5 x6 r1 x4 0 0 z16 H locs ls hr1 hM (lv_sub hl [0, 1, 2, 3, 4, 5, 6] rfl) hq
        · have hq := tw_it hq hc
          refine lv_aload_n hx hb dmX13_threeChange_110 rfl (lv_at hl 1 rfl) ?_
          refine mg13_32 hx hb hT hown hK hM hN hr1 dmX13_threeChange_111 ?_
          refine lv_aload_n hx hb dmX13_threeChange_114 rfl (lv_at hl 1 rfl) ?_
          refine mg13_38 hx hb hT hown hK hM hN hr1 dmX13_threeChange_115 ?_
          refine lv_iload hx hb dmX13_threeChange_118 (lv_at hl 6 rfl) ?_
          refine tw_iald mX_ok hx hb hK hM (mrn_9 hr1) hq dmX13_threeChange_120 (fun v18 hq => ?_)
          refine tw_iald mX_ok hx hb hK hM (mrn_5 hr1) hq dmX13_threeChange_121 (fun v19 hq => ?_)
          refine lv_if_ne (tgt := 129) hx hb dmX13_threeChange_122 (by decide) (fun hc => ?_) (fun hc => ?_)
          · have hq := tw_if hq hc
            exact ih_4 x2 x3 x4 x5 x6 r1 x4 0 0 z16 H locs ls hr1 hM (lv_sub hl [0, 1, 2, 3, 4, 5, 6] rfl) hq
          · have hq := tw_it hq hc
            refine lv_iconst (v := 1) hx hb dmX13_threeChange_125 (by decide) ?_
            refine lv_goto (tgt := 130) hx hb dmX13_threeChange_126 (by decide) ?_
            exact ih_5 x2 x3 x4 x5 x6 r1 1 x4 0 z16 H locs ls hr1 hM (lv_sub hl [0, 1, 2, 3, 4, 5, 6] rfl) hq
      · intro x2 x3 x4 x5 x6 r1 t0 t1 t2 z H locs ls hr1 hM hl hq
        have hq : qm_X13_threeChange_4 K (q_X13_threeChange K k) x2 x3 x4 x5 x6 r1 t0 t1 t2 z = some z1 := hq
        unfold qm_X13_threeChange_4 at hq
        refine lv_iconst (v := 0) hx hb dmX13_threeChange_129 (by decide) ?_
        exact ih_5 x2 x3 x4 x5 x6 r1 0 t0 0 z H locs ls hr1 hM (lv_sub hl [0, 1, 2, 3, 4, 5, 6] rfl) hq
      · intro x2 x3 x4 x5 x6 r1 t0 t1 t2 z H locs ls hr1 hM hl hq
        have hq : qm_X13_threeChange_5 K (q_X13_threeChange K k) x2 x3 x4 x5 x6 r1 t0 t1 t2 z = some z1 := hq
        unfold qm_X13_threeChange_5 at hq
        refine lv_ior hx hb dmX13_threeChange_130 ?_
        refine lv_istore (lv' := [(4, .int (t1 ||| t0)), (0, .ref (u 0)), (1, .ref (u r1)), (2, .int x2), (3, .int x3), (5, .int x5), (6, .int x6)]) hx hb dmX13_threeChange_131 hl (by decide) rfl (fun ls hl => ?_)
        refine lv_iinc (v := (x3 + 1)) (lv' := [(3, .int (x3 + 1)), (4, .int (t1 ||| t0)), (0, .ref (u 0)), (1, .ref (u r1)), (2, .int x2), (5, .int x5), (6, .int x6)]) hx hb dmX13_threeChange_133 hl (k := 4) rfl rfl (by decide) rfl (fun ls hl => ?_)
        exact ih_6 x2 (x3 + 1) (t1 ||| t0) x5 0 r1 0 0 0 z H locs ls hr1 hM (lv_sub hl [2, 3, 4, 0, 1, 5] rfl) hq
      · intro x2 x3 x4 x5 x6 r1 t0 t1 t2 z H locs ls hr1 hM hl hq
        have hq : qm_X13_threeChange_6 K (q_X13_threeChange K k) x2 x3 x4 x5 x6 r1 t0 t1 t2 z = some z1 := hq
        unfold qm_X13_threeChange_6 at hq
        refine lv_iinc (v := (x5 + 1)) (lv' := [(5, .int (x5 + 1)), (0, .ref (u 0)), (1, .ref (u r1)), (2, .int x2), (3, .int x3), (4, .int x4)]) hx hb dmX13_threeChange_136 hl (k := 5) rfl rfl (by decide) rfl (fun ls hl => ?_)
        refine lv_goto (tgt := 32) hx hb dmX13_threeChange_139 (by decide) ?_
        exact ih_2 x2 x3 x4 (x5 + 1) 0 r1 0 0 0 z H locs ls hr1 hM (lv_sub hl [1, 2, 3, 4, 5, 0] rfl) hq
      · intro x2 x3 x4 x5 x6 r1 t0 t1 t2 z H locs ls hr1 hM hl hq
        have hq : qm_X13_threeChange_7 K (q_X13_threeChange K k) x2 x3 x4 x5 x6 r1 t0 t1 t2 z = some z1 := hq
        unfold qm_X13_threeChange_7 at hq
        refine lv_iload hx hb dmX13_threeChange_203 (lv_at hl 5 rfl) ?_
        refine lv_iconst (v := 3) hx hb dmX13_threeChange_205 (by decide) ?_
        refine lv_icmp_ge (tgt := 301) hx hb dmX13_threeChange_206 (by decide) (fun hc => ?_) (fun hc => ?_)
        · have hq := tw_it hq hc
          refine lv_aload_n hx hb dmX13_threeChange_301 rfl (lv_at hl 0 rfl) ?_
          obtain ⟨z20, hcq, hq⟩ := tw_cl0 hq
          refine tw_calv hM (va_runV (As := []) (rest := []) ⟨hx, hb, hml, hown, hts⟩ (km_X13_offer l D q u hU K z z20 hcq) (cwV 0 hts (tw_gV wM_good wq_192 wq_193 wq_194 wq_61 wq_191) rfl rfl rfl cd_X13_offer ⟨(Nat.le_of_ble_eq_true rfl), (Nat.le_of_ble_eq_true rfl)⟩) (mw_preV hK hN hM mo_0 rfl) rfl rfl hl.1 rfl (lv_room (Nat.le_of_ble_eq_true rfl)) dmX13_threeChange_302 ⟨(Nat.le_of_ble_eq_true rfl), (Nat.le_of_ble_eq_true rfl)⟩) (fun H locs hM => ?_)
          exact ih_8 x2 0 0 0 0 r1 0 0 0 z20 H locs ls hr1 hM (lv_sub hl [0, 1, 2] rfl) hq
        · have hq := tw_if hq hc
          refine lv_aload_n hx hb dmX13_threeChange_209 rfl (lv_at hl 0 rfl) ?_
          refine mg13_161 hx hb hT hown hK hM dmX13_threeChange_210 ?_
          refine lv_iload hx hb dmX13_threeChange_213 (lv_at hl 5 rfl) ?_
          refine tw_iald mX_ok hx hb hK hM mr_33 hq dmX13_threeChange_215 (fun v21 hq => ?_)
          refine lv_istore (lv' := [(6, .int v21), (0, .ref (u 0)), (1, .ref (u r1)), (2, .int x2), (3, .int x3), (4, .int x4), (5, .int x5)]) hx hb dmX13_threeChange_216 hl (by decide) rfl (fun ls hl => ?_)
          refine lv_aload_n hx hb dmX13_threeChange_218 rfl (lv_at hl 2 rfl) ?_
          refine mg13_38 hx hb hT hown hK hM hN hr1 dmX13_threeChange_219 ?_
          refine lv_iload hx hb dmX13_threeChange_222 (lv_at hl 0 rfl) ?_
          refine tw_iald mX_ok hx hb hK hM (mrn_9 hr1) hq dmX13_threeChange_224 (fun v22 hq => ?_)
          refine lv_istore (lv' := [(7, .int v22), (6, .int v21), (0, .ref (u 0)), (1, .ref (u r1)), (2, .int x2), (3, .int x3), (4, .int x4), (5, .int x5)]) hx hb dmX13_threeChange_225 hl (by decide) rfl (fun ls hl => ?_)
          refine lv_aload_n hx hb dmX13_threeChange_227 rfl (lv_at hl 2 rfl) ?_
          refine mg13_121 hx hb hT hown hK hM dmX13_threeChange_228 ?_
          refine mg13_23 hx hb hT hown hK hM hN mw_n3 dmX13_threeChange_231 ?_
          refine lv_iload hx hb dmX13_threeChange_234 (lv_at hl 1 rfl) ?_
          refine lv_aload_n hx hb dmX13_threeChange_236 rfl (lv_at hl 3 rfl) ?_
          refine mg13_23 hx hb hT hown hK hM hN hr1 dmX13_threeChange_237 ?_
          refine lv_iload hx hb dmX13_threeChange_240 (lv_at hl 0 rfl) ?_
          refine tw_iald mX_ok hx hb hK hM (mrn_4 hr1) hq dmX13_threeChange_242 (fun v23 hq => ?_)
          refine tw_iast mX_ok hU hx hb hK hM (mrn_4 mw_n3) hq dmX13_threeChange_243 (fun z24 H locs hM hq => ?_)
          refine lv_aload_n hx hb dmX13_threeChange_244 rfl (lv_at hl 2 rfl) ?_
          refine mg13_121 hx hb hT hown hK hM dmX13_threeChange_245 ?_
          refine mg13_32 hx hb hT hown hK hM hN mw_n3 dmX13_threeChange_248 ?_
          refine lv_iload hx hb dmX13_threeChange_251 (lv_at hl 1 rfl) ?_
          refine lv_aload_n hx hb dmX13_threeChange_253 rfl (lv_at hl 3 rfl) ?_
          refine mg13_32 hx hb hT hown hK hM hN hr1 dmX13_threeChange_254 ?_
          refine lv_iload hx hb dmX13_threeChange_257 (lv_at hl 0 rfl) ?_
          refine tw_iald mX_ok hx hb hK hM (mrn_5 hr1) hq dmX13_threeChange_259 (fun v25 hq => ?_)
          refine tw_iast mX_ok hU hx hb hK hM (mrn_5 mw_n3) hq dmX13_threeChange_260 (fun z26 H locs hM hq => ?_)
          refine lv_aload_n hx hb dmX13_threeChange_261 rfl (lv_at hl 2 rfl) ?_
          refine mg13_121 hx hb hT hown hK hM dmX13_threeChange_262 ?_
          refine mg13_23 hx hb hT hown hK hM hN mw_n3 dmX13_threeChange_265 ?_
          refine lv_iload hx hb dmX13_threeChange_268 (lv_at hl 0 rfl) ?_
          refine lv_aload_n hx hb dmX13_threeChange_270 rfl (lv_at hl 3 rfl) ?_
          refine mg13_23 hx hb hT hown hK hM hN hr1 dmX13_threeChange_271 ?_
          refine lv_iload hx hb dmX13_threeChange_274 (lv_at hl 1 rfl) ?_
          refine tw_iald mX_ok hx hb hK hM (mrn_4 hr1) hq dmX13_threeChange_276 (fun v27 hq => ?_)
          refine tw_iast mX_ok hU hx hb hK hM (mrn_4 mw_n3) hq dmX13_threeChange_277 (fun z28 H locs hM hq => ?_)
          refine lv_aload_n hx hb dmX13_threeChange_278 rfl (lv_at hl 2 rfl) ?_
          refine mg13_121 hx hb hT hown hK hM dmX13_threeChange_279 ?_
          refine mg13_32 hx hb hT hown hK hM hN mw_n3 dmX13_threeChange_282 ?_
          refine lv_iload hx hb dmX13_threeChange_285 (lv_at hl 0 rfl) ?_
          refine lv_aload_n hx hb dmX13_threeChange_287 rfl (lv_at hl 3 rfl) ?_
          refine mg13_32 hx hb hT hown hK hM hN hr1 dmX13_threeChange_288 ?_
          refine lv_iload hx hb dmX13_threeChange_291 (lv_at hl 1 rfl) ?_
          refine tw_iald mX_ok hx hb hK hM (mrn_5 hr1) hq dmX13_threeChange_293 (fun v29 hq => ?_)
          refine tw_iast mX_ok hU hx hb hK hM (mrn_5 mw_n3) hq dmX13_threeChange_294 (fun z30 H locs hM hq => ?_)
          refine lv_iinc (v := (x5 + 1)) (lv' := [(5, .int (x5 + 1)), (7, .int v22), (6, .int v21), (0, .ref (u 0)), (1, .ref (u r1)), (2, .int x2), (3, .int x3), (4, .int x4)]) hx hb dmX13_threeChange_295 hl (k := 7) rfl rfl (by decide) rfl (fun ls hl => ?_)
          refine lv_goto (tgt := 203) hx hb dmX13_threeChange_298 (by decide) ?_
          exact ih_7 x2 x3 x4 (x5 + 1) 0 r1 0 0 0 z30 H locs ls hr1 hM (lv_sub hl [3, 4, 5, 6, 7, 0] rfl) hq
      · intro x2 x3 x4 x5 x6 r1 t0 t1 t2 z H locs ls hr1 hM hl hq
        have hq : qm_X13_threeChange_8 K (q_X13_threeChange K k) x2 x3 x4 x5 x6 r1 t0 t1 t2 z = some z1 := hq
        unfold qm_X13_threeChange_8 at hq
        refine lv_iinc (v := (x2 + 1)) (lv' := [(2, .int (x2 + 1)), (0, .ref (u 0)), (1, .ref (u r1))]) hx hb dmX13_threeChange_305 hl (k := 2) rfl rfl (by decide) rfl (fun ls hl => ?_)
        refine lv_goto (tgt := 6) hx hb dmX13_threeChange_308 (by decide) ?_
        exact ih_1 (x2 + 1) 0 0 0 0 r1 0 0 0 z H locs ls hr1 hM (lv_sub hl [1, 2, 0] rfl) hq
  exact (key K).1 0 0 0 0 0 r1 0 0 0 z s.heap [] ls hr1 hM (lv_sub hl [0, 1] rfl) hq
theorem dmX13_tryMoves_0 : decode cX13_tryMoves 0 = .ok (.iload_n 2, 1) := dw_at cX13_tryMoves_k0 (p := 0) rfl (by decide +kernel)
theorem dmX13_tryMoves_1 : decode cX13_tryMoves 1 = .ok (.tableswitch 132 0 3 #[31, 82, 103, 111], 31) := by decide +kernel
theorem dmX13_tryMoves_32 : decode cX13_tryMoves 32 = .ok (.iconst 0, 1) := dw_at cX13_tryMoves_k1 (p := 0) rfl (by decide +kernel)
theorem dmX13_tryMoves_33 : decode cX13_tryMoves 33 = .ok (.istore_n 3, 1) := dw_at cX13_tryMoves_k1 (p := 1) rfl (by decide +kernel)
theorem dmX13_tryMoves_34 : decode cX13_tryMoves 34 = .ok (.iload_n 3, 1) := dw_at cX13_tryMoves_k1 (p := 2) rfl (by decide +kernel)
theorem dmX13_tryMoves_35 : decode cX13_tryMoves 35 = .ok (.aload_n 1, 1) := dw_at cX13_tryMoves_k1 (p := 3) rfl (by decide +kernel)
theorem dmX13_tryMoves_36 : decode cX13_tryMoves 36 = .ok (.getfield 44, 3) := dw_at cX13_tryMoves_k1 (p := 4) rfl (by decide +kernel)
theorem dmX13_tryMoves_39 : decode cX13_tryMoves 39 = .ok (.if_icmp .ge 41, 3) := dw_at cX13_tryMoves_k1 (p := 7) rfl (by decide +kernel)
theorem dmX13_tryMoves_42 : decode cX13_tryMoves 42 = .ok (.aload_n 1, 1) := dw_at cX13_tryMoves_k1 (p := 10) rfl (by decide +kernel)
theorem dmX13_tryMoves_43 : decode cX13_tryMoves 43 = .ok (.getfield 38, 3) := dw_at cX13_tryMoves_k1 (p := 11) rfl (by decide +kernel)
theorem dmX13_tryMoves_46 : decode cX13_tryMoves 46 = .ok (.iload_n 3, 1) := dw_at cX13_tryMoves_k1 (p := 14) rfl (by decide +kernel)
theorem dmX13_tryMoves_47 : decode cX13_tryMoves 47 = .ok (.iaload, 1) := dw_at cX13_tryMoves_k1 (p := 15) rfl (by decide +kernel)
theorem dmX13_tryMoves_48 : decode cX13_tryMoves 48 = .ok (.aload_n 1, 1) := dw_at cX13_tryMoves_k1 (p := 16) rfl (by decide +kernel)
theorem dmX13_tryMoves_49 : decode cX13_tryMoves 49 = .ok (.getfield 41, 3) := dw_at cX13_tryMoves_k1 (p := 17) rfl (by decide +kernel)
theorem dmX13_tryMoves_52 : decode cX13_tryMoves 52 = .ok (.iload_n 3, 1) := dw_at cX13_tryMoves_k1 (p := 20) rfl (by decide +kernel)
theorem dmX13_tryMoves_53 : decode cX13_tryMoves 53 = .ok (.iaload, 1) := dw_at cX13_tryMoves_k1 (p := 21) rfl (by decide +kernel)
theorem dmX13_tryMoves_54 : decode cX13_tryMoves 54 = .ok (.if_icmp .ne 20, 3) := dw_at cX13_tryMoves_k1 (p := 22) rfl (by decide +kernel)
theorem dmX13_tryMoves_57 : decode cX13_tryMoves 57 = .ok (.aload_n 0, 1) := dw_at cX13_tryMoves_k2 (p := 0) rfl (by decide +kernel)
theorem dmX13_tryMoves_58 : decode cX13_tryMoves 58 = .ok (.aload_n 1, 1) := dw_at cX13_tryMoves_k2 (p := 1) rfl (by decide +kernel)
theorem dmX13_tryMoves_59 : decode cX13_tryMoves 59 = .ok (.aload_n 1, 1) := dw_at cX13_tryMoves_k2 (p := 2) rfl (by decide +kernel)
theorem dmX13_tryMoves_60 : decode cX13_tryMoves 60 = .ok (.getfield 23, 3) := dw_at cX13_tryMoves_k2 (p := 3) rfl (by decide +kernel)
theorem dmX13_tryMoves_63 : decode cX13_tryMoves 63 = .ok (.iload_n 3, 1) := dw_at cX13_tryMoves_k2 (p := 6) rfl (by decide +kernel)
theorem dmX13_tryMoves_64 : decode cX13_tryMoves 64 = .ok (.iaload, 1) := dw_at cX13_tryMoves_k2 (p := 7) rfl (by decide +kernel)
theorem dmX13_tryMoves_65 : decode cX13_tryMoves 65 = .ok (.aload_n 1, 1) := dw_at cX13_tryMoves_k2 (p := 8) rfl (by decide +kernel)
theorem dmX13_tryMoves_66 : decode cX13_tryMoves 66 = .ok (.getfield 23, 3) := dw_at cX13_tryMoves_k2 (p := 9) rfl (by decide +kernel)
theorem dmX13_tryMoves_69 : decode cX13_tryMoves 69 = .ok (.iload_n 3, 1) := dw_at cX13_tryMoves_k2 (p := 12) rfl (by decide +kernel)
theorem dmX13_tryMoves_70 : decode cX13_tryMoves 70 = .ok (.iaload, 1) := dw_at cX13_tryMoves_k2 (p := 13) rfl (by decide +kernel)
theorem dmX13_tryMoves_71 : decode cX13_tryMoves 71 = .ok (.invokevirtual 513, 3) := dw_at cX13_tryMoves_k2 (p := 14) rfl (by decide +kernel)
theorem dmX13_tryMoves_74 : decode cX13_tryMoves 74 = .ok (.iinc 3 1, 3) := dw_at cX13_tryMoves_k2 (p := 17) rfl (by decide +kernel)
theorem dmX13_tryMoves_77 : decode cX13_tryMoves 77 = .ok (.goto (-43), 3) := dw_at cX13_tryMoves_k2 (p := 20) rfl (by decide +kernel)
theorem dmX13_tryMoves_80 : decode cX13_tryMoves 80 = .ok (.goto 58, 3) := dw_at cX13_tryMoves_k2 (p := 23) rfl (by decide +kernel)
theorem dmX13_tryMoves_83 : decode cX13_tryMoves 83 = .ok (.aload_n 1, 1) := dw_at cX13_tryMoves_k3 (p := 0) rfl (by decide +kernel)
theorem dmX13_tryMoves_84 : decode cX13_tryMoves 84 = .ok (.getfield 44, 3) := dw_at cX13_tryMoves_k3 (p := 1) rfl (by decide +kernel)
theorem dmX13_tryMoves_87 : decode cX13_tryMoves 87 = .ok (.iconst 2, 1) := dw_at cX13_tryMoves_k3 (p := 4) rfl (by decide +kernel)
theorem dmX13_tryMoves_88 : decode cX13_tryMoves 88 = .ok (.idiv, 1) := dw_at cX13_tryMoves_k3 (p := 5) rfl (by decide +kernel)
theorem dmX13_tryMoves_89 : decode cX13_tryMoves 89 = .ok (.iconst 1, 1) := dw_at cX13_tryMoves_k3 (p := 6) rfl (by decide +kernel)
theorem dmX13_tryMoves_90 : decode cX13_tryMoves 90 = .ok (.iadd, 1) := dw_at cX13_tryMoves_k3 (p := 7) rfl (by decide +kernel)
theorem dmX13_tryMoves_91 : decode cX13_tryMoves 91 = .ok (.bipush 12, 2) := dw_at cX13_tryMoves_k3 (p := 8) rfl (by decide +kernel)
theorem dmX13_tryMoves_93 : decode cX13_tryMoves 93 = .ok (.if_icmp .gt 45, 3) := dw_at cX13_tryMoves_k3 (p := 10) rfl (by decide +kernel)
theorem dmX13_tryMoves_96 : decode cX13_tryMoves 96 = .ok (.aload_n 0, 1) := dw_at cX13_tryMoves_k3 (p := 13) rfl (by decide +kernel)
theorem dmX13_tryMoves_97 : decode cX13_tryMoves 97 = .ok (.aload_n 1, 1) := dw_at cX13_tryMoves_k3 (p := 14) rfl (by decide +kernel)
theorem dmX13_tryMoves_98 : decode cX13_tryMoves 98 = .ok (.invokevirtual 531, 3) := dw_at cX13_tryMoves_k3 (p := 15) rfl (by decide +kernel)
theorem dmX13_tryMoves_101 : decode cX13_tryMoves 101 = .ok (.goto 37, 3) := dw_at cX13_tryMoves_k3 (p := 18) rfl (by decide +kernel)
theorem dmX13_tryMoves_104 : decode cX13_tryMoves 104 = .ok (.aload_n 0, 1) := dw_at cX13_tryMoves_k3 (p := 21) rfl (by decide +kernel)
theorem dmX13_tryMoves_105 : decode cX13_tryMoves 105 = .ok (.aload_n 1, 1) := dw_at cX13_tryMoves_k3 (p := 22) rfl (by decide +kernel)
theorem dmX13_tryMoves_106 : decode cX13_tryMoves 106 = .ok (.invokevirtual 534, 3) := dw_at cX13_tryMoves_k3 (p := 23) rfl (by decide +kernel)
theorem dmX13_tryMoves_109 : decode cX13_tryMoves 109 = .ok (.goto 29, 3) := dw_at cX13_tryMoves_k4 (p := 0) rfl (by decide +kernel)
theorem dmX13_tryMoves_112 : decode cX13_tryMoves 112 = .ok (.aload_n 1, 1) := dw_at cX13_tryMoves_k4 (p := 3) rfl (by decide +kernel)
theorem dmX13_tryMoves_113 : decode cX13_tryMoves 113 = .ok (.getfield 44, 3) := dw_at cX13_tryMoves_k4 (p := 4) rfl (by decide +kernel)
theorem dmX13_tryMoves_116 : decode cX13_tryMoves 116 = .ok (.iconst 2, 1) := dw_at cX13_tryMoves_k4 (p := 7) rfl (by decide +kernel)
theorem dmX13_tryMoves_117 : decode cX13_tryMoves 117 = .ok (.idiv, 1) := dw_at cX13_tryMoves_k4 (p := 8) rfl (by decide +kernel)
theorem dmX13_tryMoves_118 : decode cX13_tryMoves 118 = .ok (.iconst 2, 1) := dw_at cX13_tryMoves_k4 (p := 9) rfl (by decide +kernel)
theorem dmX13_tryMoves_119 : decode cX13_tryMoves 119 = .ok (.iadd, 1) := dw_at cX13_tryMoves_k4 (p := 10) rfl (by decide +kernel)
theorem dmX13_tryMoves_120 : decode cX13_tryMoves 120 = .ok (.bipush 12, 2) := dw_at cX13_tryMoves_k4 (p := 11) rfl (by decide +kernel)
theorem dmX13_tryMoves_122 : decode cX13_tryMoves 122 = .ok (.if_icmp .gt 16, 3) := dw_at cX13_tryMoves_k4 (p := 13) rfl (by decide +kernel)
theorem dmX13_tryMoves_125 : decode cX13_tryMoves 125 = .ok (.aload_n 0, 1) := dw_at cX13_tryMoves_k4 (p := 16) rfl (by decide +kernel)
theorem dmX13_tryMoves_126 : decode cX13_tryMoves 126 = .ok (.aload_n 1, 1) := dw_at cX13_tryMoves_k4 (p := 17) rfl (by decide +kernel)
theorem dmX13_tryMoves_127 : decode cX13_tryMoves 127 = .ok (.invokevirtual 537, 3) := dw_at cX13_tryMoves_k4 (p := 18) rfl (by decide +kernel)
theorem dmX13_tryMoves_130 : decode cX13_tryMoves 130 = .ok (.goto 8, 3) := dw_at cX13_tryMoves_k4 (p := 21) rfl (by decide +kernel)
theorem dmX13_tryMoves_133 : decode cX13_tryMoves 133 = .ok (.aload_n 0, 1) := dw_at cX13_tryMoves_k4 (p := 24) rfl (by decide +kernel)
theorem dmX13_tryMoves_134 : decode cX13_tryMoves 134 = .ok (.aload_n 1, 1) := dw_at cX13_tryMoves_k4 (p := 25) rfl (by decide +kernel)
theorem dmX13_tryMoves_135 : decode cX13_tryMoves 135 = .ok (.invokevirtual 540, 3) := dw_at cX13_tryMoves_k4 (p := 26) rfl (by decide +kernel)
theorem dmX13_tryMoves_138 : decode cX13_tryMoves 138 = .ok (.return_, 1) := dw_at cX13_tryMoves_k4 (p := 29) rfl (by decide +kernel)
def qm_X13_tryMoves_0 (K : Nat) (go : Nat → Int32 → Int32 → Nat → ow_MS → Option ow_MS) (x2 : Int32) (x3 : Int32) (r1 : Nat) (z : ow_MS) : Option ow_MS :=
 (if x2.toInt < 0 ∨ 3 < x2.toInt then cs0 (qe_X13_threeChange K r1 z) fun z1 => some z1
 else (if x2 = 0 then go 1 x2 0 r1 z
 else (if x2 = 1 then rdF z (r1 + 1) fun v2 => nzI 2 ((if 12 < ((v2 / 2) + 1) then some z
 else cs0 (qe_X13_oneComes K r1 z) fun z3 => some z3))
 else (if x2 = 2 then cs0 (qe_X13_twoGo K r1 z) fun z4 => some z4
 else (if x2 = 3 then rdF z (r1 + 1) fun v5 => nzI 2 ((if 12 < ((v5 / 2) + 2) then some z
 else cs0 (qe_X13_twoCome K r1 z) fun z6 => some z6))
 else none)))))
def qm_X13_tryMoves_1 (K : Nat) (go : Nat → Int32 → Int32 → Nat → ow_MS → Option ow_MS) (x2 : Int32) (x3 : Int32) (r1 : Nat) (z : ow_MS) : Option ow_MS :=
 rdF z (r1 + 1) fun v7 => (if v7 ≤ x3 then some z
 else rdI mX z (r1 + 9) x3 fun v8 => rdI mX z (r1 + 7) x3 fun v9 => (if v8 = v9 then rdI mX z (r1 + 4) x3 fun v10 => rdI mX z (r1 + 4) x3 fun v11 => cs0 (qe_X13_without K r1 v10 v11 z) fun z12 => go 2 x2 x3 r1 z12
 else go 2 x2 x3 r1 z))
def qm_X13_tryMoves_2 (K : Nat) (go : Nat → Int32 → Int32 → Nat → ow_MS → Option ow_MS) (x2 : Int32) (x3 : Int32) (r1 : Nat) (z : ow_MS) : Option ow_MS :=
 go 1 x2 (x3 + 1) r1 z
def qb_X13_tryMoves (K : Nat) (go : Nat → Int32 → Int32 → Nat → ow_MS → Option ow_MS) (L : Nat) (x2 : Int32) (x3 : Int32) (r1 : Nat) (z : ow_MS) : Option ow_MS := match L with
  | 0 => qm_X13_tryMoves_0 K go x2 x3 r1 z
  | 1 => qm_X13_tryMoves_1 K go x2 x3 r1 z
  | 2 => qm_X13_tryMoves_2 K go x2 x3 r1 z
  | _ => none
def q_X13_tryMoves (K : Nat) : Nat → Nat → Int32 → Int32 → Nat → ow_MS → Option ow_MS
  | 0 => fun _ _ _ _ _ => none
  | k + 1 => qb_X13_tryMoves K (q_X13_tryMoves K k)
def qe_X13_tryMoves (K : Nat) (r1 : Nat) (x2 : Int32) (z : ow_MS) : Option ow_MS := q_X13_tryMoves K K 0 x2 0 r1 z
abbrev wm_X13_tryMoves : List Cond := .code yX13_tryMoves cX13_tryMoves 4 none :: wM
theorem cd_X13_tryMoves : yX13_tryMoves.cls = RX13 ∧ yX13_tryMoves.cls ≠ "java/lang/invoke/MethodHandle" ∧ yX13_tryMoves.cls ≠ "java/lang/invoke/VarHandle" ∧ (parseMethodDescriptor yX13_tryMoves.desc).map (fun d => d.parameters.length) = some 2 := by decide +kernel
set_option maxHeartbeats 4000000 in
set_option maxRecDepth 100000 in
theorem km_X13_tryMoves (l : Launch) (D : va_G) (q : ow_Q5) (u : Nat → Nat) (hU : tw_inj mX u) (K : Nat) (r1 : Nat) (x2 : Int32) (hr1 : mw_net r1) (z z1 : ow_MS) (hq : qe_X13_tryMoves K r1 x2 z = some z1) : Met l yX13_tryMoves wm_X13_tryMoves ({ frames := 7, cells := 0, slots := 0, locals := 185 } : Room) (va_Pc [.ref (u 0), .ref (u r1), .int x2] (mw_pre D q u z)) (va_Qv (fun (_ : Unit) => True) (fun _ t => va_P D vwCl (tw mX q u z1) t.heap) (tw_A mX u)) 0 0 (tw_A mX u) := by
  refine Met.ofW (cc := cX13_tryMoves) (maxL := 4) (ret := none) (by decide) rfl ?_
  intro p e s m args below meth c s₁ B hml hv
  obtain ⟨rfl, hP, hK, hN⟩ := hv
  have hx := B.exec
  have hb := B.bytes
  have hr := B.returns
  have hts := atoms_spec (ws := wm_X13_tryMoves) B.pre
  have hT : ∀ w ∈ wM, w.before ([.ref (u 0), .ref (u r1), .int x2] : List Value).toArray s = true := fun w h => hts w (List.mem_cons_of_mem _ h)
  have hown : s.vm.findClass RX13 = some m.cls := findClass_of_methodNamed B.named
  have hlocks := B.notSynchronized
  have hM : tw_M D vwCl mX q s.heap u z s.heap [] := ⟨hP, va_S.rf⟩
  have hl := lv_entry ([.ref (u 0), .ref (u r1), .int x2]) (n := 4) (Nat.le_of_ble_eq_true rfl)
  rw [lg_entry_eq]
  generalize (lg_sl ([.ref (u 0), .ref (u r1), .int x2]) ++ List.replicate (4 - (lg_sl ([.ref (u 0), .ref (u r1), .int x2])).length) Slot.unset).toArray = ls at hl ⊢
  have hl : lv_has ls 4 [(0, .ref (u 0)), (1, .ref (u r1)), (2, .int x2)] := hl
  refine ow_named (fun QQ hQQ => ?_)
  generalize ([.ref (u 0), .ref (u r1), .int x2] : List Value).toArray = args at hts hT hQQ ⊢
  have key : ∀ k : Nat, (∀ (x2 : Int32) (x3 : Int32) (r1 : Nat) (z : ow_MS) (H : Heap) (locs : List Loc) (ls : Array Slot), mw_net r1 → tw_M D vwCl mX q s.heap u z H locs → lv_has ls 4 [(0, .ref (u 0)), (1, .ref (u r1)), (2, .int x2)] → q_X13_tryMoves K k 0 x2 x3 r1 z = some z1 → W p l e ({ frames := 7, cells := 0, slots := 0, locals := 185 } : Room) s m args below meth c H locs 0 0 QQ (F0 m 0 ls [])) ∧ (∀ (x2 : Int32) (x3 : Int32) (r1 : Nat) (z : ow_MS) (H : Heap) (locs : List Loc) (ls : Array Slot), mw_net r1 → tw_M D vwCl mX q s.heap u z H locs → lv_has ls 4 [(0, .ref (u 0)), (1, .ref (u r1)), (2, .int x2), (3, .int x3)] → q_X13_tryMoves K k 1 x2 x3 r1 z = some z1 → W p l e ({ frames := 7, cells := 0, slots := 0, locals := 185 } : Room) s m args below meth c H locs 0 0 QQ (F0 m 34 ls [])) ∧ (∀ (x2 : Int32) (x3 : Int32) (r1 : Nat) (z : ow_MS) (H : Heap) (locs : List Loc) (ls : Array Slot), mw_net r1 → tw_M D vwCl mX q s.heap u z H locs → lv_has ls 4 [(0, .ref (u 0)), (1, .ref (u r1)), (2, .int x2), (3, .int x3)] → q_X13_tryMoves K k 2 x2 x3 r1 z = some z1 → W p l e ({ frames := 7, cells := 0, slots := 0, locals := 185 } : Room) s m args below meth c H locs 0 0 QQ (F0 m 74 ls [])) := by
    intro k
    induction k with
    | zero => exact ⟨fun _ _ _ _ _ _ _ _ _ _ hq => tw_no hq, fun _ _ _ _ _ _ _ _ _ _ hq => tw_no hq, fun _ _ _ _ _ _ _ _ _ _ hq => tw_no hq⟩
    | succ k ih =>
      obtain ⟨ih_0, ih_1, ih_2⟩ := ih
      refine ⟨?_, ?_, ?_⟩
      · intro x2 x3 r1 z H locs ls hr1 hM hl hq
        have hq : qm_X13_tryMoves_0 K (q_X13_tryMoves K k) x2 x3 r1 z = some z1 := hq
        unfold qm_X13_tryMoves_0 at hq
        refine lv_iload_n hx hb dmX13_tryMoves_0 rfl (lv_at hl 2 rfl) ?_
        by_cases hc : x2.toInt < 0 ∨ 3 < x2.toInt
        · have hq := tw_it hq hc
          refine lv_tableOut (tgt := 133) hx hb dmX13_tryMoves_1 hc (by decide) ?_
          refine lv_aload_n hx hb dmX13_tryMoves_133 rfl (lv_at hl 0 rfl) ?_
          refine lv_aload_n hx hb dmX13_tryMoves_134 rfl (lv_at hl 1 rfl) ?_
          obtain ⟨z1, hcq, hq⟩ := tw_cl0 hq
          refine tw_calv hM (va_runV (As := [.ref (u r1)]) (rest := []) ⟨hx, hb, hml, hown, hts⟩ (km_X13_threeChange l D q u hU K r1 hr1 z z1 hcq) (cwV 1 hts (tw_gV wM_good wq_239 wq_240 wq_241 wq_61 wq_229) rfl rfl rfl cd_X13_threeChange ⟨(Nat.le_of_ble_eq_true rfl), (Nat.le_of_ble_eq_true rfl)⟩) (mw_preV hK hN hM mo_0 rfl) rfl rfl hl.1 rfl (lv_room (Nat.le_of_ble_eq_true rfl)) dmX13_tryMoves_135 ⟨(Nat.le_of_ble_eq_true rfl), (Nat.le_of_ble_eq_true rfl)⟩) (fun H locs hM => ?_)
          exact mw_vret hx hb hr hlocks hM hq hQQ dmX13_tryMoves_138
        · have hq := tw_if hq hc
          by_cases hc : x2 = 0
          · have hq := tw_it hq hc
            refine ow_topi (y := 0) hc ?_
            refine lv_tableIn (x := 0) (tgt := 32) hx hb dmX13_tryMoves_1 (by decide) (by decide) rfl (by decide) ?_
            refine lv_iconst (v := 0) hx hb dmX13_tryMoves_32 (by decide) ?_
            refine lv_istore_n (lv' := [(3, .int 0), (0, .ref (u 0)), (1, .ref (u r1)), (2, .int x2)]) hx hb dmX13_tryMoves_33 rfl hl (by decide) rfl (fun ls hl => ?_)
            exact ih_1 x2 0 r1 z H locs ls hr1 hM (lv_sub hl [1, 2, 3, 0] rfl) hq
          · have hq := tw_if hq hc
            by_cases hc : x2 = 1
            · have hq := tw_it hq hc
              refine ow_topi (y := 1) hc ?_
              refine lv_tableIn (x := 1) (tgt := 83) hx hb dmX13_tryMoves_1 (by decide) (by decide) rfl (by decide) ?_
              refine lv_aload_n hx hb dmX13_tryMoves_83 rfl (lv_at hl 1 rfl) ?_
              refine mg13_44 hx hb hT hown hK hM hN hr1 hq dmX13_tryMoves_84 (fun v2 hq => ?_)
              refine lv_iconst (v := 2) hx hb dmX13_tryMoves_87 (by decide) ?_
              obtain ⟨hz, hq⟩ := tw_nzI hq
              refine lv_idiv hx hb dmX13_tryMoves_88 hz ?_
              refine lv_iconst (v := 1) hx hb dmX13_tryMoves_89 (by decide) ?_
              refine lv_iadd hx hb dmX13_tryMoves_90 ?_
              refine lv_bipush (v := 12) hx hb dmX13_tryMoves_91 (by decide) ?_
              refine lv_icmp_gt (tgt := 138) hx hb dmX13_tryMoves_93 (by decide) (fun hc => ?_) (fun hc => ?_)
              · have hq := tw_it hq hc
                exact mw_vret hx hb hr hlocks hM hq hQQ dmX13_tryMoves_138
              · have hq := tw_if hq hc
                refine lv_aload_n hx hb dmX13_tryMoves_96 rfl (lv_at hl 0 rfl) ?_
                refine lv_aload_n hx hb dmX13_tryMoves_97 rfl (lv_at hl 1 rfl) ?_
                obtain ⟨z3, hcq, hq⟩ := tw_cl0 hq
                refine tw_calv hM (va_runV (As := [.ref (u r1)]) (rest := []) ⟨hx, hb, hml, hown, hts⟩ (km_X13_oneComes l D q u hU K r1 hr1 z z3 hcq) (cwV 1 hts (tw_gV wM_good wq_230 wq_231 wq_232 wq_61 wq_213) rfl rfl rfl cd_X13_oneComes ⟨(Nat.le_of_ble_eq_true rfl), (Nat.le_of_ble_eq_true rfl)⟩) (mw_preV hK hN hM mo_0 rfl) rfl rfl hl.1 rfl (lv_room (Nat.le_of_ble_eq_true rfl)) dmX13_tryMoves_98 ⟨(Nat.le_of_ble_eq_true rfl), (Nat.le_of_ble_eq_true rfl)⟩) (fun H locs hM => ?_)
                refine lv_goto (tgt := 138) hx hb dmX13_tryMoves_101 (by decide) ?_
                exact mw_vret hx hb hr hlocks hM hq hQQ dmX13_tryMoves_138
            · have hq := tw_if hq hc
              by_cases hc : x2 = 2
              · have hq := tw_it hq hc
                refine ow_topi (y := 2) hc ?_
                refine lv_tableIn (x := 2) (tgt := 104) hx hb dmX13_tryMoves_1 (by decide) (by decide) rfl (by decide) ?_
                refine lv_aload_n hx hb dmX13_tryMoves_104 rfl (lv_at hl 0 rfl) ?_
                refine lv_aload_n hx hb dmX13_tryMoves_105 rfl (lv_at hl 1 rfl) ?_
                obtain ⟨z4, hcq, hq⟩ := tw_cl0 hq
                refine tw_calv hM (va_runV (As := [.ref (u r1)]) (rest := []) ⟨hx, hb, hml, hown, hts⟩ (km_X13_twoGo l D q u hU K r1 hr1 z z4 hcq) (cwV 1 hts (tw_gV wM_good wq_233 wq_234 wq_235 wq_61 wq_222) rfl rfl rfl cd_X13_twoGo ⟨(Nat.le_of_ble_eq_true rfl), (Nat.le_of_ble_eq_true rfl)⟩) (mw_preV hK hN hM mo_0 rfl) rfl rfl hl.1 rfl (lv_room (Nat.le_of_ble_eq_true rfl)) dmX13_tryMoves_106 ⟨(Nat.le_of_ble_eq_true rfl), (Nat.le_of_ble_eq_true rfl)⟩) (fun H locs hM => ?_)
                refine lv_goto (tgt := 138) hx hb dmX13_tryMoves_109 (by decide) ?_
                exact mw_vret hx hb hr hlocks hM hq hQQ dmX13_tryMoves_138
              · have hq := tw_if hq hc
                by_cases hc : x2 = 3
                · have hq := tw_it hq hc
                  refine ow_topi (y := 3) hc ?_
                  refine lv_tableIn (x := 3) (tgt := 112) hx hb dmX13_tryMoves_1 (by decide) (by decide) rfl (by decide) ?_
                  refine lv_aload_n hx hb dmX13_tryMoves_112 rfl (lv_at hl 1 rfl) ?_
                  refine mg13_44 hx hb hT hown hK hM hN hr1 hq dmX13_tryMoves_113 (fun v5 hq => ?_)
                  refine lv_iconst (v := 2) hx hb dmX13_tryMoves_116 (by decide) ?_
                  obtain ⟨hz, hq⟩ := tw_nzI hq
                  refine lv_idiv hx hb dmX13_tryMoves_117 hz ?_
                  refine lv_iconst (v := 2) hx hb dmX13_tryMoves_118 (by decide) ?_
                  refine lv_iadd hx hb dmX13_tryMoves_119 ?_
                  refine lv_bipush (v := 12) hx hb dmX13_tryMoves_120 (by decide) ?_
                  refine lv_icmp_gt (tgt := 138) hx hb dmX13_tryMoves_122 (by decide) (fun hc => ?_) (fun hc => ?_)
                  · have hq := tw_it hq hc
                    exact mw_vret hx hb hr hlocks hM hq hQQ dmX13_tryMoves_138
                  · have hq := tw_if hq hc
                    refine lv_aload_n hx hb dmX13_tryMoves_125 rfl (lv_at hl 0 rfl) ?_
                    refine lv_aload_n hx hb dmX13_tryMoves_126 rfl (lv_at hl 1 rfl) ?_
                    obtain ⟨z6, hcq, hq⟩ := tw_cl0 hq
                    refine tw_calv hM (va_runV (As := [.ref (u r1)]) (rest := []) ⟨hx, hb, hml, hown, hts⟩ (km_X13_twoCome l D q u hU K r1 hr1 z z6 hcq) (cwV 1 hts (tw_gV wM_good wq_236 wq_237 wq_238 wq_61 wq_218) rfl rfl rfl cd_X13_twoCome ⟨(Nat.le_of_ble_eq_true rfl), (Nat.le_of_ble_eq_true rfl)⟩) (mw_preV hK hN hM mo_0 rfl) rfl rfl hl.1 rfl (lv_room (Nat.le_of_ble_eq_true rfl)) dmX13_tryMoves_127 ⟨(Nat.le_of_ble_eq_true rfl), (Nat.le_of_ble_eq_true rfl)⟩) (fun H locs hM => ?_)
                    refine lv_goto (tgt := 138) hx hb dmX13_tryMoves_130 (by decide) ?_
                    exact mw_vret hx hb hr hlocks hM hq hQQ dmX13_tryMoves_138
                · have hq := tw_if hq hc
                  cases hq
      · intro x2 x3 r1 z H locs ls hr1 hM hl hq
        have hq : qm_X13_tryMoves_1 K (q_X13_tryMoves K k) x2 x3 r1 z = some z1 := hq
        unfold qm_X13_tryMoves_1 at hq
        refine lv_iload_n hx hb dmX13_tryMoves_34 rfl (lv_at hl 3 rfl) ?_
        refine lv_aload_n hx hb dmX13_tryMoves_35 rfl (lv_at hl 1 rfl) ?_
        refine mg13_44 hx hb hT hown hK hM hN hr1 hq dmX13_tryMoves_36 (fun v7 hq => ?_)
        refine lv_icmp_ge (tgt := 80) hx hb dmX13_tryMoves_39 (by decide) (fun hc => ?_) (fun hc => ?_)
        · have hq := tw_it hq hc
          refine lv_goto (tgt := 138) hx hb dmX13_tryMoves_80 (by decide) ?_
          exact mw_vret hx hb hr hlocks hM hq hQQ dmX13_tryMoves_138
        · have hq := tw_if hq hc
          refine lv_aload_n hx hb dmX13_tryMoves_42 rfl (lv_at hl 1 rfl) ?_
          refine mg13_38 hx hb hT hown hK hM hN hr1 dmX13_tryMoves_43 ?_
          refine lv_iload_n hx hb dmX13_tryMoves_46 rfl (lv_at hl 3 rfl) ?_
          refine tw_iald mX_ok hx hb hK hM (mrn_9 hr1) hq dmX13_tryMoves_47 (fun v8 hq => ?_)
          refine lv_aload_n hx hb dmX13_tryMoves_48 rfl (lv_at hl 1 rfl) ?_
          refine mg13_41 hx hb hT hown hK hM hN hr1 dmX13_tryMoves_49 ?_
          refine lv_iload_n hx hb dmX13_tryMoves_52 rfl (lv_at hl 3 rfl) ?_
          refine tw_iald mX_ok hx hb hK hM (mrn_7 hr1) hq dmX13_tryMoves_53 (fun v9 hq => ?_)
          refine lv_icmp_ne (tgt := 74) hx hb dmX13_tryMoves_54 (by decide) (fun hc => ?_) (fun hc => ?_)
          · have hq := tw_if hq hc
            exact ih_2 x2 x3 r1 z H locs ls hr1 hM (lv_sub hl [0, 1, 2, 3] rfl) hq
          · have hq := tw_it hq hc
            refine lv_aload_n hx hb dmX13_tryMoves_57 rfl (lv_at hl 0 rfl) ?_
            refine lv_aload_n hx hb dmX13_tryMoves_58 rfl (lv_at hl 1 rfl) ?_
            refine lv_aload_n hx hb dmX13_tryMoves_59 rfl (lv_at hl 1 rfl) ?_
            refine mg13_23 hx hb hT hown hK hM hN hr1 dmX13_tryMoves_60 ?_
            refine lv_iload_n hx hb dmX13_tryMoves_63 rfl (lv_at hl 3 rfl) ?_
            refine tw_iald mX_ok hx hb hK hM (mrn_4 hr1) hq dmX13_tryMoves_64 (fun v10 hq => ?_)
            refine lv_aload_n hx hb dmX13_tryMoves_65 rfl (lv_at hl 1 rfl) ?_
            refine mg13_23 hx hb hT hown hK hM hN hr1 dmX13_tryMoves_66 ?_
            refine lv_iload_n hx hb dmX13_tryMoves_69 rfl (lv_at hl 3 rfl) ?_
            refine tw_iald mX_ok hx hb hK hM (mrn_4 hr1) hq dmX13_tryMoves_70 (fun v11 hq => ?_)
            obtain ⟨z12, hcq, hq⟩ := tw_cl0 hq
            refine tw_calv hM (va_runV (As := [.ref (u r1), .int v10, .int v11]) (rest := []) ⟨hx, hb, hml, hown, hts⟩ (km_X13_without l D q u hU K r1 v10 v11 hr1 z z12 hcq) (cwV 3 hts (tw_gV wM_good wq_219 wq_220 wq_221 wq_61 wq_195) rfl rfl rfl cd_X13_without ⟨(Nat.le_of_ble_eq_true rfl), (Nat.le_of_ble_eq_true rfl)⟩) (mw_preV hK hN hM mo_0 rfl) rfl rfl hl.1 rfl (lv_room (Nat.le_of_ble_eq_true rfl)) dmX13_tryMoves_71 ⟨(Nat.le_of_ble_eq_true rfl), (Nat.le_of_ble_eq_true rfl)⟩) (fun H locs hM => ?_)
            exact ih_2 x2 x3 r1 z12 H locs ls hr1 hM (lv_sub hl [0, 1, 2, 3] rfl) hq
      · intro x2 x3 r1 z H locs ls hr1 hM hl hq
        have hq : qm_X13_tryMoves_2 K (q_X13_tryMoves K k) x2 x3 r1 z = some z1 := hq
        unfold qm_X13_tryMoves_2 at hq
        refine lv_iinc (v := (x3 + 1)) (lv' := [(3, .int (x3 + 1)), (0, .ref (u 0)), (1, .ref (u r1)), (2, .int x2)]) hx hb dmX13_tryMoves_74 hl (k := 3) rfl rfl (by decide) rfl (fun ls hl => ?_)
        refine lv_goto (tgt := 34) hx hb dmX13_tryMoves_77 (by decide) ?_
        exact ih_1 x2 (x3 + 1) r1 z H locs ls hr1 hM (lv_sub hl [1, 2, 3, 0] rfl) hq
  exact (key K).1 x2 0 r1 z s.heap [] ls hr1 hM (lv_sub hl [0, 1, 2] rfl) hq
theorem dmX13_moves_0 : decode cX13_moves 0 = .ok (.aload_n 0, 1) := dw_at cX13_moves_k0 (p := 0) rfl (by decide +kernel)
theorem dmX13_moves_1 : decode cX13_moves 1 = .ok (.iconst 0, 1) := dw_at cX13_moves_k0 (p := 1) rfl (by decide +kernel)
theorem dmX13_moves_2 : decode cX13_moves 2 = .ok (.putfield 1, 3) := dw_at cX13_moves_k0 (p := 2) rfl (by decide +kernel)
theorem dmX13_moves_5 : decode cX13_moves 5 = .ok (.aload_n 0, 1) := dw_at cX13_moves_k0 (p := 5) rfl (by decide +kernel)
theorem dmX13_moves_6 : decode cX13_moves 6 = .ok (.iload_n 1, 1) := dw_at cX13_moves_k0 (p := 6) rfl (by decide +kernel)
theorem dmX13_moves_7 : decode cX13_moves 7 = .ok (.invokevirtual 423, 3) := dw_at cX13_moves_k0 (p := 7) rfl (by decide +kernel)
theorem dmX13_moves_10 : decode cX13_moves 10 = .ok (.ifCond .ne 9, 3) := dw_at cX13_moves_k0 (p := 10) rfl (by decide +kernel)
theorem dmX13_moves_13 : decode cX13_moves 13 = .ok (.aload_n 0, 1) := dw_at cX13_moves_k0 (p := 13) rfl (by decide +kernel)
theorem dmX13_moves_14 : decode cX13_moves 14 = .ok (.iconst 1, 1) := dw_at cX13_moves_k0 (p := 14) rfl (by decide +kernel)
theorem dmX13_moves_15 : decode cX13_moves 15 = .ok (.invokevirtual 403, 3) := dw_at cX13_moves_k0 (p := 15) rfl (by decide +kernel)
theorem dmX13_moves_18 : decode cX13_moves 18 = .ok (.ireturn, 1) := dw_at cX13_moves_k0 (p := 18) rfl (by decide +kernel)
theorem dmX13_moves_19 : decode cX13_moves 19 = .ok (.iload_n 2, 1) := dw_at cX13_moves_k0 (p := 19) rfl (by decide +kernel)
theorem dmX13_moves_20 : decode cX13_moves 20 = .ok (.ifCond .lt 8, 3) := dw_at cX13_moves_k0 (p := 20) rfl (by decide +kernel)
theorem dmX13_moves_23 : decode cX13_moves 23 = .ok (.iload_n 2, 1) := dw_at cX13_moves_k0 (p := 23) rfl (by decide +kernel)
theorem dmX13_moves_24 : decode cX13_moves 24 = .ok (.iconst 4, 1) := dw_at cX13_moves_k1 (p := 0) rfl (by decide +kernel)
theorem dmX13_moves_25 : decode cX13_moves 25 = .ok (.if_icmp .le 9, 3) := dw_at cX13_moves_k1 (p := 1) rfl (by decide +kernel)
theorem dmX13_moves_28 : decode cX13_moves 28 = .ok (.aload_n 0, 1) := dw_at cX13_moves_k1 (p := 4) rfl (by decide +kernel)
theorem dmX13_moves_29 : decode cX13_moves 29 = .ok (.iconst 2, 1) := dw_at cX13_moves_k1 (p := 5) rfl (by decide +kernel)
theorem dmX13_moves_30 : decode cX13_moves 30 = .ok (.invokevirtual 403, 3) := dw_at cX13_moves_k1 (p := 6) rfl (by decide +kernel)
theorem dmX13_moves_33 : decode cX13_moves 33 = .ok (.ireturn, 1) := dw_at cX13_moves_k1 (p := 9) rfl (by decide +kernel)
theorem dmX13_moves_34 : decode cX13_moves 34 = .ok (.aload_n 0, 1) := dw_at cX13_moves_k1 (p := 10) rfl (by decide +kernel)
theorem dmX13_moves_35 : decode cX13_moves 35 = .ok (.iload_n 1, 1) := dw_at cX13_moves_k1 (p := 11) rfl (by decide +kernel)
theorem dmX13_moves_36 : decode cX13_moves 36 = .ok (.aload_n 0, 1) := dw_at cX13_moves_k1 (p := 12) rfl (by decide +kernel)
theorem dmX13_moves_37 : decode cX13_moves 37 = .ok (.getfield 114, 3) := dw_at cX13_moves_k1 (p := 13) rfl (by decide +kernel)
theorem dmX13_moves_40 : decode cX13_moves 40 = .ok (.invokevirtual 434, 3) := dw_at cX13_moves_k1 (p := 16) rfl (by decide +kernel)
theorem dmX13_moves_43 : decode cX13_moves 43 = .ok (.aload_n 0, 1) := dw_at cX13_moves_k1 (p := 19) rfl (by decide +kernel)
theorem dmX13_moves_44 : decode cX13_moves 44 = .ok (.iconst 0, 1) := dw_at cX13_moves_k1 (p := 20) rfl (by decide +kernel)
theorem dmX13_moves_45 : decode cX13_moves 45 = .ok (.putfield 485, 3) := dw_at cX13_moves_k1 (p := 21) rfl (by decide +kernel)
theorem dmX13_moves_48 : decode cX13_moves 48 = .ok (.aload_n 0, 1) := dw_at cX13_moves_k2 (p := 0) rfl (by decide +kernel)
theorem dmX13_moves_49 : decode cX13_moves 49 = .ok (.iconst 0, 1) := dw_at cX13_moves_k2 (p := 1) rfl (by decide +kernel)
theorem dmX13_moves_50 : decode cX13_moves 50 = .ok (.putfield 465, 3) := dw_at cX13_moves_k2 (p := 2) rfl (by decide +kernel)
theorem dmX13_moves_53 : decode cX13_moves 53 = .ok (.aload_n 0, 1) := dw_at cX13_moves_k2 (p := 5) rfl (by decide +kernel)
theorem dmX13_moves_54 : decode cX13_moves 54 = .ok (.aload_n 0, 1) := dw_at cX13_moves_k2 (p := 6) rfl (by decide +kernel)
theorem dmX13_moves_55 : decode cX13_moves 55 = .ok (.getfield 114, 3) := dw_at cX13_moves_k2 (p := 7) rfl (by decide +kernel)
theorem dmX13_moves_58 : decode cX13_moves 58 = .ok (.iload_n 2, 1) := dw_at cX13_moves_k2 (p := 10) rfl (by decide +kernel)
theorem dmX13_moves_59 : decode cX13_moves 59 = .ok (.invokevirtual 543, 3) := dw_at cX13_moves_k2 (p := 11) rfl (by decide +kernel)
theorem dmX13_moves_62 : decode cX13_moves 62 = .ok (.aload_n 0, 1) := dw_at cX13_moves_k2 (p := 14) rfl (by decide +kernel)
theorem dmX13_moves_63 : decode cX13_moves 63 = .ok (.getfield 485, 3) := dw_at cX13_moves_k2 (p := 15) rfl (by decide +kernel)
theorem dmX13_moves_66 : decode cX13_moves 66 = .ok (.ireturn, 1) := dw_at cX13_moves_k2 (p := 18) rfl (by decide +kernel)
def qm_X13_moves_0 (K : Nat) (go : Nat → Int32 → Int32 → ow_MS → Option (Int32 × ow_MS)) (x1 : Int32) (x2 : Int32) (z : ow_MS) : Option (Int32 × ow_MS) :=
 wrF z 1 0 fun z1 => cs1 (qe_X13_has K x1 z1) fun v3 z2 => (if v3 = 0 then cs1 (qe_X13_fails K 1 z2) fun v10 z9 => some (v10, z9)
 else (if x2 < 0 then go 1 x1 x2 z2
 else (if x2 ≤ 4 then cs0 (qe_X13_open K x1 1000 z2) fun z4 => wrF z4 22 0 fun z5 => wrF z5 30 0 fun z6 => cs0 (qe_X13_tryMoves K 1000 x2 z6) fun z7 => rdF z7 22 fun v8 => some (v8, z7)
 else go 1 x1 x2 z2)))
def qm_X13_moves_1 (K : Nat) (go : Nat → Int32 → Int32 → ow_MS → Option (Int32 × ow_MS)) (x1 : Int32) (x2 : Int32) (z : ow_MS) : Option (Int32 × ow_MS) :=
 cs1 (qe_X13_fails K 2 z) fun v12 z11 => some (v12, z11)
def qb_X13_moves (K : Nat) (go : Nat → Int32 → Int32 → ow_MS → Option (Int32 × ow_MS)) (L : Nat) (x1 : Int32) (x2 : Int32) (z : ow_MS) : Option (Int32 × ow_MS) := match L with
  | 0 => qm_X13_moves_0 K go x1 x2 z
  | 1 => qm_X13_moves_1 K go x1 x2 z
  | _ => none
def q_X13_moves (K : Nat) : Nat → Nat → Int32 → Int32 → ow_MS → Option (Int32 × ow_MS)
  | 0 => fun _ _ _ _ => none
  | k + 1 => qb_X13_moves K (q_X13_moves K k)
def qe_X13_moves (K : Nat) (x1 : Int32) (x2 : Int32) (z : ow_MS) : Option (Int32 × ow_MS) := q_X13_moves K K 0 x1 x2 z
abbrev wm_X13_moves : List Cond := .code yX13_moves cX13_moves 3 (some .int) :: wM
theorem cd_X13_moves : yX13_moves.cls = RX13 ∧ yX13_moves.cls ≠ "java/lang/invoke/MethodHandle" ∧ yX13_moves.cls ≠ "java/lang/invoke/VarHandle" ∧ (parseMethodDescriptor yX13_moves.desc).map (fun d => d.parameters.length) = some 2 := by decide +kernel
set_option maxHeartbeats 4000000 in
set_option maxRecDepth 100000 in
theorem km_X13_moves (l : Launch) (D : va_G) (q : ow_Q5) (u : Nat → Nat) (hU : tw_inj mX u) (K : Nat) (x1 : Int32) (x2 : Int32)  (z z1 : ow_MS) (r : Int32) (hq : qe_X13_moves K x1 x2 z = some (r, z1)) : Met l yX13_moves wm_X13_moves ({ frames := 8, cells := 0, slots := 0, locals := 208 } : Room) (va_Pc [.ref (u 0), .int x1, .int x2] (mw_pre D q u z)) (va_Qi (fun x (_ : Unit) => x = r) (fun _ t => va_P D vwCl (tw mX q u z1) t.heap) (tw_A mX u)) 0 0 (tw_A mX u) := by
  refine Met.ofW (cc := cX13_moves) (maxL := 3) (ret := (some .int)) (by decide) rfl ?_
  intro p e s m args below meth c s₁ B hml hv
  obtain ⟨rfl, hP, hK, hN⟩ := hv
  have hx := B.exec
  have hb := B.bytes
  have hr := B.returns
  have hts := atoms_spec (ws := wm_X13_moves) B.pre
  have hT : ∀ w ∈ wM, w.before ([.ref (u 0), .int x1, .int x2] : List Value).toArray s = true := fun w h => hts w (List.mem_cons_of_mem _ h)
  have hown : s.vm.findClass RX13 = some m.cls := findClass_of_methodNamed B.named
  have hlocks := B.notSynchronized
  have hM : tw_M D vwCl mX q s.heap u z s.heap [] := ⟨hP, va_S.rf⟩
  have hl := lv_entry ([.ref (u 0), .int x1, .int x2]) (n := 3) (Nat.le_of_ble_eq_true rfl)
  rw [lg_entry_eq]
  generalize (lg_sl ([.ref (u 0), .int x1, .int x2]) ++ List.replicate (3 - (lg_sl ([.ref (u 0), .int x1, .int x2])).length) Slot.unset).toArray = ls at hl ⊢
  have hl : lv_has ls 3 [(0, .ref (u 0)), (1, .int x1), (2, .int x2)] := hl
  refine ow_named (fun QQ hQQ => ?_)
  generalize ([.ref (u 0), .int x1, .int x2] : List Value).toArray = args at hts hT hQQ ⊢
  have key : ∀ k : Nat, (∀ (x1 : Int32) (x2 : Int32) (z : ow_MS) (H : Heap) (locs : List Loc) (ls : Array Slot), tw_M D vwCl mX q s.heap u z H locs → lv_has ls 3 [(0, .ref (u 0)), (1, .int x1), (2, .int x2)] → q_X13_moves K k 0 x1 x2 z = some (r, z1) → W p l e ({ frames := 8, cells := 0, slots := 0, locals := 208 } : Room) s m args below meth c H locs 0 0 QQ (F0 m 0 ls [])) ∧ (∀ (x1 : Int32) (x2 : Int32) (z : ow_MS) (H : Heap) (locs : List Loc) (ls : Array Slot), tw_M D vwCl mX q s.heap u z H locs → lv_has ls 3 [(0, .ref (u 0)), (1, .int x1), (2, .int x2)] → q_X13_moves K k 1 x1 x2 z = some (r, z1) → W p l e ({ frames := 8, cells := 0, slots := 0, locals := 208 } : Room) s m args below meth c H locs 0 0 QQ (F0 m 28 ls [])) := by
    intro k
    induction k with
    | zero => exact ⟨fun _ _ _ _ _ _  _ _ hq => tw_no hq, fun _ _ _ _ _ _  _ _ hq => tw_no hq⟩
    | succ k ih =>
      obtain ⟨ih_0, ih_1⟩ := ih
      refine ⟨?_, ?_⟩
      · intro x1 x2 z H locs ls  hM hl hq
        have hq : qm_X13_moves_0 K (q_X13_moves K k) x1 x2 z = some (r, z1) := hq
        unfold qm_X13_moves_0 at hq
        refine lv_aload_n hx hb dmX13_moves_0 rfl (lv_at hl 0 rfl) ?_
        refine lv_iconst (v := 0) hx hb dmX13_moves_1 (by decide) ?_
        refine mp13_1 hx hb hT hown hK hM hU hq dmX13_moves_2 (fun z1 H locs hM hq => ?_)
        refine lv_aload_n hx hb dmX13_moves_5 rfl (lv_at hl 0 rfl) ?_
        refine lv_iload_n hx hb dmX13_moves_6 rfl (lv_at hl 1 rfl) ?_
        obtain ⟨v3, z2, hcq, hq⟩ := tw_cl1 hq
        refine tw_cali hM (va_runV (As := [.int x1]) (rest := []) ⟨hx, hb, hml, hown, hts⟩ (km_X13_has l D q u hU K x1 z1 z2 v3 hcq) (cwV 1 hts (tw_gV wM_good wq_127 wq_128 wq_129 wq_61 wq_90) rfl rfl rfl cd_X13_has ⟨(Nat.le_of_ble_eq_true rfl), (Nat.le_of_ble_eq_true rfl)⟩) (mw_preV hK hN hM mo_0 rfl) rfl rfl hl.1 rfl (lv_room (Nat.le_of_ble_eq_true rfl)) dmX13_moves_7 ⟨(Nat.le_of_ble_eq_true rfl), (Nat.le_of_ble_eq_true rfl)⟩) (fun H locs hM => ?_)
        refine lv_if_ne (tgt := 19) hx hb dmX13_moves_10 (by decide) (fun hc => ?_) (fun hc => ?_)
        · have hq := tw_if hq hc
          refine lv_iload_n hx hb dmX13_moves_19 rfl (lv_at hl 2 rfl) ?_
          refine lv_if_lt (tgt := 28) hx hb dmX13_moves_20 (by decide) (fun hc => ?_) (fun hc => ?_)
          · have hq := tw_it hq hc
            exact ih_1 x1 x2 z2 H locs ls hM (lv_sub hl [0, 1, 2] rfl) hq
          · have hq := tw_if hq hc
            refine lv_iload_n hx hb dmX13_moves_23 rfl (lv_at hl 2 rfl) ?_
            refine lv_iconst (v := 4) hx hb dmX13_moves_24 (by decide) ?_
            refine lv_icmp_le (tgt := 34) hx hb dmX13_moves_25 (by decide) (fun hc => ?_) (fun hc => ?_)
            · have hq := tw_it hq hc
              refine lv_aload_n hx hb dmX13_moves_34 rfl (lv_at hl 0 rfl) ?_
              refine lv_iload_n hx hb dmX13_moves_35 rfl (lv_at hl 1 rfl) ?_
              refine lv_aload_n hx hb dmX13_moves_36 rfl (lv_at hl 0 rfl) ?_
              refine mg13_114 hx hb hT hown hK hM dmX13_moves_37 ?_
              obtain ⟨z4, hcq, hq⟩ := tw_cl0 hq
              refine tw_calv hM (va_runV (As := [.int x1, .ref (u 1000)]) (rest := []) ⟨hx, hb, hml, hown, hts⟩ (km_X13_open l D q u hU K x1 1000 mw_n1 z2 z4 hcq) (cwV 2 hts (tw_gV wM_good wq_138 wq_139 wq_140 wq_61 wq_136) rfl rfl rfl cd_X13_open ⟨(Nat.le_of_ble_eq_true rfl), (Nat.le_of_ble_eq_true rfl)⟩) (mw_preV hK hN hM mo_0 rfl) rfl rfl hl.1 rfl (lv_room (Nat.le_of_ble_eq_true rfl)) dmX13_moves_40 ⟨(Nat.le_of_ble_eq_true rfl), (Nat.le_of_ble_eq_true rfl)⟩) (fun H locs hM => ?_)
              refine lv_aload_n hx hb dmX13_moves_43 rfl (lv_at hl 0 rfl) ?_
              refine lv_iconst (v := 0) hx hb dmX13_moves_44 (by decide) ?_
              refine mp13_485 hx hb hT hown hK hM hU hq dmX13_moves_45 (fun z5 H locs hM hq => ?_)
              refine lv_aload_n hx hb dmX13_moves_48 rfl (lv_at hl 0 rfl) ?_
              refine lv_iconst (v := 0) hx hb dmX13_moves_49 (by decide) ?_
              refine mp13_465 hx hb hT hown hK hM hU hq dmX13_moves_50 (fun z6 H locs hM hq => ?_)
              refine lv_aload_n hx hb dmX13_moves_53 rfl (lv_at hl 0 rfl) ?_
              refine lv_aload_n hx hb dmX13_moves_54 rfl (lv_at hl 0 rfl) ?_
              refine mg13_114 hx hb hT hown hK hM dmX13_moves_55 ?_
              refine lv_iload_n hx hb dmX13_moves_58 rfl (lv_at hl 2 rfl) ?_
              obtain ⟨z7, hcq, hq⟩ := tw_cl0 hq
              refine tw_calv hM (va_runV (As := [.ref (u 1000), .int x2]) (rest := []) ⟨hx, hb, hml, hown, hts⟩ (km_X13_tryMoves l D q u hU K 1000 x2 mw_n1 z6 z7 hcq) (cwV 2 hts (tw_gV wM_good wq_243 wq_244 wq_245 wq_61 wq_242) rfl rfl rfl cd_X13_tryMoves ⟨(Nat.le_of_ble_eq_true rfl), (Nat.le_of_ble_eq_true rfl)⟩) (mw_preV hK hN hM mo_0 rfl) rfl rfl hl.1 rfl (lv_room (Nat.le_of_ble_eq_true rfl)) dmX13_moves_59 ⟨(Nat.le_of_ble_eq_true rfl), (Nat.le_of_ble_eq_true rfl)⟩) (fun H locs hM => ?_)
              refine lv_aload_n hx hb dmX13_moves_62 rfl (lv_at hl 0 rfl) ?_
              refine mg13_485 hx hb hT hown hK hM hq dmX13_moves_63 (fun v8 hq => ?_)
              exact mw_iret hx hb hr hlocks hM hq hQQ dmX13_moves_66
            · have hq := tw_if hq hc
              exact ih_1 x1 x2 z2 H locs ls hM (lv_sub hl [0, 1, 2] rfl) hq
        · have hq := tw_it hq hc
          refine lv_aload_n hx hb dmX13_moves_13 rfl (lv_at hl 0 rfl) ?_
          refine lv_iconst (v := 1) hx hb dmX13_moves_14 (by decide) ?_
          obtain ⟨v10, z9, hcq, hq⟩ := tw_cl1 hq
          refine tw_cali hM (va_runV (As := [.int 1]) (rest := []) ⟨hx, hb, hml, hown, hts⟩ (km_X13_fails l D q u hU K 1 z2 z9 v10 hcq) (cwV 1 hts (tw_gV wM_good wq_103 wq_104 wq_105 wq_61 wq_50) rfl rfl rfl cd_X13_fails ⟨(Nat.le_of_ble_eq_true rfl), (Nat.le_of_ble_eq_true rfl)⟩) (mw_preV hK hN hM mo_0 rfl) rfl rfl hl.1 rfl (lv_room (Nat.le_of_ble_eq_true rfl)) dmX13_moves_15 ⟨(Nat.le_of_ble_eq_true rfl), (Nat.le_of_ble_eq_true rfl)⟩) (fun H locs hM => ?_)
          exact mw_iret hx hb hr hlocks hM hq hQQ dmX13_moves_18
      · intro x1 x2 z H locs ls  hM hl hq
        have hq : qm_X13_moves_1 K (q_X13_moves K k) x1 x2 z = some (r, z1) := hq
        unfold qm_X13_moves_1 at hq
        refine lv_aload_n hx hb dmX13_moves_28 rfl (lv_at hl 0 rfl) ?_
        refine lv_iconst (v := 2) hx hb dmX13_moves_29 (by decide) ?_
        obtain ⟨v12, z11, hcq, hq⟩ := tw_cl1 hq
        refine tw_cali hM (va_runV (As := [.int 2]) (rest := []) ⟨hx, hb, hml, hown, hts⟩ (km_X13_fails l D q u hU K 2 z z11 v12 hcq) (cwV 1 hts (tw_gV wM_good wq_103 wq_104 wq_105 wq_61 wq_50) rfl rfl rfl cd_X13_fails ⟨(Nat.le_of_ble_eq_true rfl), (Nat.le_of_ble_eq_true rfl)⟩) (mw_preV hK hN hM mo_0 rfl) rfl rfl hl.1 rfl (lv_room (Nat.le_of_ble_eq_true rfl)) dmX13_moves_30 ⟨(Nat.le_of_ble_eq_true rfl), (Nat.le_of_ble_eq_true rfl)⟩) (fun H locs hM => ?_)
        exact mw_iret hx hb hr hlocks hM hq hQQ dmX13_moves_33
  exact (key K).1 x1 x2 z s.heap [] ls  hM (lv_sub hl [0, 1, 2] rfl) hq
theorem dmX13_moved_0 : decode cX13_moved 0 = .ok (.aload_n 0, 1) := dw_at cX13_moved_k0 (p := 0) rfl (by decide +kernel)
theorem dmX13_moved_1 : decode cX13_moved 1 = .ok (.iconst 0, 1) := dw_at cX13_moved_k0 (p := 1) rfl (by decide +kernel)
theorem dmX13_moved_2 : decode cX13_moved 2 = .ok (.putfield 1, 3) := dw_at cX13_moved_k0 (p := 2) rfl (by decide +kernel)
theorem dmX13_moved_5 : decode cX13_moved 5 = .ok (.iload_n 1, 1) := dw_at cX13_moved_k0 (p := 5) rfl (by decide +kernel)
theorem dmX13_moved_6 : decode cX13_moved 6 = .ok (.ifCond .lt 11, 3) := dw_at cX13_moved_k0 (p := 6) rfl (by decide +kernel)
theorem dmX13_moved_9 : decode cX13_moved 9 = .ok (.iload_n 1, 1) := dw_at cX13_moved_k0 (p := 9) rfl (by decide +kernel)
theorem dmX13_moved_10 : decode cX13_moved 10 = .ok (.aload_n 0, 1) := dw_at cX13_moved_k0 (p := 10) rfl (by decide +kernel)
theorem dmX13_moved_11 : decode cX13_moved 11 = .ok (.getfield 485, 3) := dw_at cX13_moved_k0 (p := 11) rfl (by decide +kernel)
theorem dmX13_moved_14 : decode cX13_moved 14 = .ok (.if_icmp .lt 9, 3) := dw_at cX13_moved_k0 (p := 14) rfl (by decide +kernel)
theorem dmX13_moved_17 : decode cX13_moved 17 = .ok (.aload_n 0, 1) := dw_at cX13_moved_k0 (p := 17) rfl (by decide +kernel)
theorem dmX13_moved_18 : decode cX13_moved 18 = .ok (.iconst 1, 1) := dw_at cX13_moved_k0 (p := 18) rfl (by decide +kernel)
theorem dmX13_moved_19 : decode cX13_moved 19 = .ok (.invokevirtual 403, 3) := dw_at cX13_moved_k0 (p := 19) rfl (by decide +kernel)
theorem dmX13_moved_22 : decode cX13_moved 22 = .ok (.ireturn, 1) := dw_at cX13_moved_k0 (p := 22) rfl (by decide +kernel)
theorem dmX13_moved_23 : decode cX13_moved 23 = .ok (.aload_n 0, 1) := dw_at cX13_moved_k0 (p := 23) rfl (by decide +kernel)
theorem dmX13_moved_24 : decode cX13_moved 24 = .ok (.invokevirtual 392, 3) := dw_at cX13_moved_k1 (p := 0) rfl (by decide +kernel)
theorem dmX13_moved_27 : decode cX13_moved 27 = .ok (.iconst (-1), 1) := dw_at cX13_moved_k1 (p := 3) rfl (by decide +kernel)
theorem dmX13_moved_28 : decode cX13_moved 28 = .ok (.if_icmp .ne 9, 3) := dw_at cX13_moved_k1 (p := 4) rfl (by decide +kernel)
theorem dmX13_moved_31 : decode cX13_moved 31 = .ok (.aload_n 0, 1) := dw_at cX13_moved_k1 (p := 7) rfl (by decide +kernel)
theorem dmX13_moved_32 : decode cX13_moved 32 = .ok (.iconst 2, 1) := dw_at cX13_moved_k1 (p := 8) rfl (by decide +kernel)
theorem dmX13_moved_33 : decode cX13_moved 33 = .ok (.invokevirtual 403, 3) := dw_at cX13_moved_k1 (p := 9) rfl (by decide +kernel)
theorem dmX13_moved_36 : decode cX13_moved 36 = .ok (.ireturn, 1) := dw_at cX13_moved_k1 (p := 12) rfl (by decide +kernel)
theorem dmX13_moved_37 : decode cX13_moved 37 = .ok (.aload_n 0, 1) := dw_at cX13_moved_k1 (p := 13) rfl (by decide +kernel)
theorem dmX13_moved_38 : decode cX13_moved 38 = .ok (.aload_n 0, 1) := dw_at cX13_moved_k1 (p := 14) rfl (by decide +kernel)
theorem dmX13_moved_39 : decode cX13_moved 39 = .ok (.getfield 137, 3) := dw_at cX13_moved_k1 (p := 15) rfl (by decide +kernel)
theorem dmX13_moved_42 : decode cX13_moved 42 = .ok (.bipush 32, 2) := dw_at cX13_moved_k1 (p := 18) rfl (by decide +kernel)
theorem dmX13_moved_44 : decode cX13_moved 44 = .ok (.aload_n 0, 1) := dw_at cX13_moved_k1 (p := 20) rfl (by decide +kernel)
theorem dmX13_moved_45 : decode cX13_moved 45 = .ok (.getfield 140, 3) := dw_at cX13_moved_k1 (p := 21) rfl (by decide +kernel)
theorem dmX13_moved_48 : decode cX13_moved 48 = .ok (.iload_n 1, 1) := dw_at cX13_moved_k1 (p := 24) rfl (by decide +kernel)
theorem dmX13_moved_49 : decode cX13_moved 49 = .ok (.iaload, 1) := dw_at cX13_moved_k1 (p := 25) rfl (by decide +kernel)
theorem dmX13_moved_50 : decode cX13_moved 50 = .ok (.imul, 1) := dw_at cX13_moved_k1 (p := 26) rfl (by decide +kernel)
theorem dmX13_moved_51 : decode cX13_moved 51 = .ok (.invokevirtual 546, 3) := dw_at cX13_moved_k1 (p := 27) rfl (by decide +kernel)
theorem dmX13_moved_54 : decode cX13_moved 54 = .ok (.ireturn, 1) := dw_at cX13_moved_k1 (p := 30) rfl (by decide +kernel)
def qm_X13_moved_0 (K : Nat) (go : Nat → Int32 → ow_MS → Option (Int32 × ow_MS)) (x1 : Int32) (z : ow_MS) : Option (Int32 × ow_MS) :=
 wrF z 1 0 fun z1 => (if x1 < 0 then go 1 x1 z1
 else rdF z1 22 fun v2 => (if x1 < v2 then cs1 (qe_X13_free K z1) fun v4 z3 => (if v4 = (-1) then cs1 (qe_X13_fails K 2 z3) fun v9 z8 => some (v9, z8)
 else rdI mX z3 21 x1 fun v5 => cs1 (qe_X13_keepRow K 20 (32 * v5) z3) fun v7 z6 => some (v7, z6))
 else go 1 x1 z1))
def qm_X13_moved_1 (K : Nat) (go : Nat → Int32 → ow_MS → Option (Int32 × ow_MS)) (x1 : Int32) (z : ow_MS) : Option (Int32 × ow_MS) :=
 cs1 (qe_X13_fails K 1 z) fun v11 z10 => some (v11, z10)
def qb_X13_moved (K : Nat) (go : Nat → Int32 → ow_MS → Option (Int32 × ow_MS)) (L : Nat) (x1 : Int32) (z : ow_MS) : Option (Int32 × ow_MS) := match L with
  | 0 => qm_X13_moved_0 K go x1 z
  | 1 => qm_X13_moved_1 K go x1 z
  | _ => none
def q_X13_moved (K : Nat) : Nat → Nat → Int32 → ow_MS → Option (Int32 × ow_MS)
  | 0 => fun _ _ _ => none
  | k + 1 => qb_X13_moved K (q_X13_moved K k)
def qe_X13_moved (K : Nat) (x1 : Int32) (z : ow_MS) : Option (Int32 × ow_MS) := q_X13_moved K K 0 x1 z
abbrev wm_X13_moved : List Cond := .code yX13_moved cX13_moved 2 (some .int) :: wM
theorem cd_X13_moved : yX13_moved.cls = RX13 ∧ yX13_moved.cls ≠ "java/lang/invoke/MethodHandle" ∧ yX13_moved.cls ≠ "java/lang/invoke/VarHandle" ∧ (parseMethodDescriptor yX13_moved.desc).map (fun d => d.parameters.length) = some 1 := by decide +kernel
set_option maxHeartbeats 4000000 in
set_option maxRecDepth 100000 in
theorem km_X13_moved (l : Launch) (D : va_G) (q : ow_Q5) (u : Nat → Nat) (hU : tw_inj mX u) (K : Nat) (x1 : Int32)  (z z1 : ow_MS) (r : Int32) (hq : qe_X13_moved K x1 z = some (r, z1)) : Met l yX13_moved wm_X13_moved ({ frames := 2, cells := 0, slots := 0, locals := 45 } : Room) (va_Pc [.ref (u 0), .int x1] (mw_pre D q u z)) (va_Qi (fun x (_ : Unit) => x = r) (fun _ t => va_P D vwCl (tw mX q u z1) t.heap) (tw_A mX u)) 0 0 (tw_A mX u) := by
  refine Met.ofW (cc := cX13_moved) (maxL := 2) (ret := (some .int)) (by decide) rfl ?_
  intro p e s m args below meth c s₁ B hml hv
  obtain ⟨rfl, hP, hK, hN⟩ := hv
  have hx := B.exec
  have hb := B.bytes
  have hr := B.returns
  have hts := atoms_spec (ws := wm_X13_moved) B.pre
  have hT : ∀ w ∈ wM, w.before ([.ref (u 0), .int x1] : List Value).toArray s = true := fun w h => hts w (List.mem_cons_of_mem _ h)
  have hown : s.vm.findClass RX13 = some m.cls := findClass_of_methodNamed B.named
  have hlocks := B.notSynchronized
  have hM : tw_M D vwCl mX q s.heap u z s.heap [] := ⟨hP, va_S.rf⟩
  have hl := lv_entry ([.ref (u 0), .int x1]) (n := 2) (Nat.le_of_ble_eq_true rfl)
  rw [lg_entry_eq]
  generalize (lg_sl ([.ref (u 0), .int x1]) ++ List.replicate (2 - (lg_sl ([.ref (u 0), .int x1])).length) Slot.unset).toArray = ls at hl ⊢
  have hl : lv_has ls 2 [(0, .ref (u 0)), (1, .int x1)] := hl
  refine ow_named (fun QQ hQQ => ?_)
  generalize ([.ref (u 0), .int x1] : List Value).toArray = args at hts hT hQQ ⊢
  have key : ∀ k : Nat, (∀ (x1 : Int32) (z : ow_MS) (H : Heap) (locs : List Loc) (ls : Array Slot), tw_M D vwCl mX q s.heap u z H locs → lv_has ls 2 [(0, .ref (u 0)), (1, .int x1)] → q_X13_moved K k 0 x1 z = some (r, z1) → W p l e ({ frames := 2, cells := 0, slots := 0, locals := 45 } : Room) s m args below meth c H locs 0 0 QQ (F0 m 0 ls [])) ∧ (∀ (x1 : Int32) (z : ow_MS) (H : Heap) (locs : List Loc) (ls : Array Slot), tw_M D vwCl mX q s.heap u z H locs → lv_has ls 2 [(0, .ref (u 0)), (1, .int x1)] → q_X13_moved K k 1 x1 z = some (r, z1) → W p l e ({ frames := 2, cells := 0, slots := 0, locals := 45 } : Room) s m args below meth c H locs 0 0 QQ (F0 m 17 ls [])) := by
    intro k
    induction k with
    | zero => exact ⟨fun _ _ _ _ _  _ _ hq => tw_no hq, fun _ _ _ _ _  _ _ hq => tw_no hq⟩
    | succ k ih =>
      obtain ⟨ih_0, ih_1⟩ := ih
      refine ⟨?_, ?_⟩
      · intro x1 z H locs ls  hM hl hq
        have hq : qm_X13_moved_0 K (q_X13_moved K k) x1 z = some (r, z1) := hq
        unfold qm_X13_moved_0 at hq
        refine lv_aload_n hx hb dmX13_moved_0 rfl (lv_at hl 0 rfl) ?_
        refine lv_iconst (v := 0) hx hb dmX13_moved_1 (by decide) ?_
        refine mp13_1 hx hb hT hown hK hM hU hq dmX13_moved_2 (fun z1 H locs hM hq => ?_)
        refine lv_iload_n hx hb dmX13_moved_5 rfl (lv_at hl 1 rfl) ?_
        refine lv_if_lt (tgt := 17) hx hb dmX13_moved_6 (by decide) (fun hc => ?_) (fun hc => ?_)
        · have hq := tw_it hq hc
          exact ih_1 x1 z1 H locs ls hM (lv_sub hl [0, 1] rfl) hq
        · have hq := tw_if hq hc
          refine lv_iload_n hx hb dmX13_moved_9 rfl (lv_at hl 1 rfl) ?_
          refine lv_aload_n hx hb dmX13_moved_10 rfl (lv_at hl 0 rfl) ?_
          refine mg13_485 hx hb hT hown hK hM hq dmX13_moved_11 (fun v2 hq => ?_)
          refine lv_icmp_lt (tgt := 23) hx hb dmX13_moved_14 (by decide) (fun hc => ?_) (fun hc => ?_)
          · have hq := tw_it hq hc
            refine lv_aload_n hx hb dmX13_moved_23 rfl (lv_at hl 0 rfl) ?_
            obtain ⟨v4, z3, hcq, hq⟩ := tw_cl1 hq
            refine tw_cali hM (va_runV (As := []) (rest := []) ⟨hx, hb, hml, hown, hts⟩ (km_X13_free l D q u hU K z1 z3 v4 hcq) (cwV 0 hts (tw_gV wM_good wq_93 wq_94 wq_95 wq_61 wq_91) rfl rfl rfl cd_X13_free ⟨(Nat.le_of_ble_eq_true rfl), (Nat.le_of_ble_eq_true rfl)⟩) (mw_preV hK hN hM mo_0 rfl) rfl rfl hl.1 rfl (lv_room (Nat.le_of_ble_eq_true rfl)) dmX13_moved_24 ⟨(Nat.le_of_ble_eq_true rfl), (Nat.le_of_ble_eq_true rfl)⟩) (fun H locs hM => ?_)
            refine lv_iconst (v := (-1)) hx hb dmX13_moved_27 (by decide) ?_
            refine lv_icmp_ne (tgt := 37) hx hb dmX13_moved_28 (by decide) (fun hc => ?_) (fun hc => ?_)
            · have hq := tw_if hq hc
              refine lv_aload_n hx hb dmX13_moved_37 rfl (lv_at hl 0 rfl) ?_
              refine lv_aload_n hx hb dmX13_moved_38 rfl (lv_at hl 0 rfl) ?_
              refine mg13_137 hx hb hT hown hK hM dmX13_moved_39 ?_
              refine lv_bipush (v := 32) hx hb dmX13_moved_42 (by decide) ?_
              refine lv_aload_n hx hb dmX13_moved_44 rfl (lv_at hl 0 rfl) ?_
              refine mg13_140 hx hb hT hown hK hM dmX13_moved_45 ?_
              refine lv_iload_n hx hb dmX13_moved_48 rfl (lv_at hl 1 rfl) ?_
              refine tw_iald mX_ok hx hb hK hM mr_21 hq dmX13_moved_49 (fun v5 hq => ?_)
              refine lv_imul hx hb dmX13_moved_50 ?_
              obtain ⟨v7, z6, hcq, hq⟩ := tw_cl1 hq
              refine tw_cali hM (va_runV (As := [.ref (u 20), .int (32 * v5)]) (rest := []) ⟨hx, hb, hml, hown, hts⟩ (km_X13_keepRow l D q u hU K 20 (32 * v5) mr_20 z3 z6 v7 hcq) (cwV 2 hts (tw_gV wM_good wq_247 wq_248 wq_249 wq_61 wq_100) rfl rfl rfl cd_X13_keepRow ⟨(Nat.le_of_ble_eq_true rfl), (Nat.le_of_ble_eq_true rfl)⟩) (mw_preV hK hN hM mo_0 rfl) rfl rfl hl.1 rfl (lv_room (Nat.le_of_ble_eq_true rfl)) dmX13_moved_51 ⟨(Nat.le_of_ble_eq_true rfl), (Nat.le_of_ble_eq_true rfl)⟩) (fun H locs hM => ?_)
              exact mw_iret hx hb hr hlocks hM hq hQQ dmX13_moved_54
            · have hq := tw_it hq hc
              refine lv_aload_n hx hb dmX13_moved_31 rfl (lv_at hl 0 rfl) ?_
              refine lv_iconst (v := 2) hx hb dmX13_moved_32 (by decide) ?_
              obtain ⟨v9, z8, hcq, hq⟩ := tw_cl1 hq
              refine tw_cali hM (va_runV (As := [.int 2]) (rest := []) ⟨hx, hb, hml, hown, hts⟩ (km_X13_fails l D q u hU K 2 z3 z8 v9 hcq) (cwV 1 hts (tw_gV wM_good wq_103 wq_104 wq_105 wq_61 wq_50) rfl rfl rfl cd_X13_fails ⟨(Nat.le_of_ble_eq_true rfl), (Nat.le_of_ble_eq_true rfl)⟩) (mw_preV hK hN hM mo_0 rfl) rfl rfl hl.1 rfl (lv_room (Nat.le_of_ble_eq_true rfl)) dmX13_moved_33 ⟨(Nat.le_of_ble_eq_true rfl), (Nat.le_of_ble_eq_true rfl)⟩) (fun H locs hM => ?_)
              exact mw_iret hx hb hr hlocks hM hq hQQ dmX13_moved_36
          · have hq := tw_if hq hc
            exact ih_1 x1 z1 H locs ls hM (lv_sub hl [0, 1] rfl) hq
      · intro x1 z H locs ls  hM hl hq
        have hq : qm_X13_moved_1 K (q_X13_moved K k) x1 z = some (r, z1) := hq
        unfold qm_X13_moved_1 at hq
        refine lv_aload_n hx hb dmX13_moved_17 rfl (lv_at hl 0 rfl) ?_
        refine lv_iconst (v := 1) hx hb dmX13_moved_18 (by decide) ?_
        obtain ⟨v11, z10, hcq, hq⟩ := tw_cl1 hq
        refine tw_cali hM (va_runV (As := [.int 1]) (rest := []) ⟨hx, hb, hml, hown, hts⟩ (km_X13_fails l D q u hU K 1 z z10 v11 hcq) (cwV 1 hts (tw_gV wM_good wq_103 wq_104 wq_105 wq_61 wq_50) rfl rfl rfl cd_X13_fails ⟨(Nat.le_of_ble_eq_true rfl), (Nat.le_of_ble_eq_true rfl)⟩) (mw_preV hK hN hM mo_0 rfl) rfl rfl hl.1 rfl (lv_room (Nat.le_of_ble_eq_true rfl)) dmX13_moved_19 ⟨(Nat.le_of_ble_eq_true rfl), (Nat.le_of_ble_eq_true rfl)⟩) (fun H locs hM => ?_)
        exact mw_iret hx hb hr hlocks hM hq hQQ dmX13_moved_22
  exact (key K).1 x1 z s.heap [] ls  hM (lv_sub hl [0, 1] rfl) hq
theorem dmX13_simplify_0 : decode cX13_simplify 0 = .ok (.aload_n 0, 1) := dw_at cX13_simplify_k0 (p := 0) rfl (by decide +kernel)
theorem dmX13_simplify_1 : decode cX13_simplify 1 = .ok (.iconst 0, 1) := dw_at cX13_simplify_k0 (p := 1) rfl (by decide +kernel)
theorem dmX13_simplify_2 : decode cX13_simplify 2 = .ok (.putfield 1, 3) := dw_at cX13_simplify_k0 (p := 2) rfl (by decide +kernel)
theorem dmX13_simplify_5 : decode cX13_simplify 5 = .ok (.aload_n 0, 1) := dw_at cX13_simplify_k0 (p := 5) rfl (by decide +kernel)
theorem dmX13_simplify_6 : decode cX13_simplify 6 = .ok (.iload_n 1, 1) := dw_at cX13_simplify_k0 (p := 6) rfl (by decide +kernel)
theorem dmX13_simplify_7 : decode cX13_simplify 7 = .ok (.invokevirtual 423, 3) := dw_at cX13_simplify_k0 (p := 7) rfl (by decide +kernel)
theorem dmX13_simplify_10 : decode cX13_simplify 10 = .ok (.ifCond .ne 9, 3) := dw_at cX13_simplify_k0 (p := 10) rfl (by decide +kernel)
theorem dmX13_simplify_13 : decode cX13_simplify 13 = .ok (.aload_n 0, 1) := dw_at cX13_simplify_k0 (p := 13) rfl (by decide +kernel)
theorem dmX13_simplify_14 : decode cX13_simplify 14 = .ok (.iconst 1, 1) := dw_at cX13_simplify_k0 (p := 14) rfl (by decide +kernel)
theorem dmX13_simplify_15 : decode cX13_simplify 15 = .ok (.invokevirtual 403, 3) := dw_at cX13_simplify_k0 (p := 15) rfl (by decide +kernel)
theorem dmX13_simplify_18 : decode cX13_simplify 18 = .ok (.ireturn, 1) := dw_at cX13_simplify_k0 (p := 18) rfl (by decide +kernel)
theorem dmX13_simplify_19 : decode cX13_simplify 19 = .ok (.aload_n 0, 1) := dw_at cX13_simplify_k0 (p := 19) rfl (by decide +kernel)
theorem dmX13_simplify_20 : decode cX13_simplify 20 = .ok (.invokevirtual 392, 3) := dw_at cX13_simplify_k0 (p := 20) rfl (by decide +kernel)
theorem dmX13_simplify_23 : decode cX13_simplify 23 = .ok (.iconst (-1), 1) := dw_at cX13_simplify_k0 (p := 23) rfl (by decide +kernel)
theorem dmX13_simplify_24 : decode cX13_simplify 24 = .ok (.if_icmp .ne 9, 3) := dw_at cX13_simplify_k1 (p := 0) rfl (by decide +kernel)
theorem dmX13_simplify_27 : decode cX13_simplify 27 = .ok (.aload_n 0, 1) := dw_at cX13_simplify_k1 (p := 3) rfl (by decide +kernel)
theorem dmX13_simplify_28 : decode cX13_simplify 28 = .ok (.iconst 2, 1) := dw_at cX13_simplify_k1 (p := 4) rfl (by decide +kernel)
theorem dmX13_simplify_29 : decode cX13_simplify 29 = .ok (.invokevirtual 403, 3) := dw_at cX13_simplify_k1 (p := 5) rfl (by decide +kernel)
theorem dmX13_simplify_32 : decode cX13_simplify 32 = .ok (.ireturn, 1) := dw_at cX13_simplify_k1 (p := 8) rfl (by decide +kernel)
theorem dmX13_simplify_33 : decode cX13_simplify 33 = .ok (.iconst 0, 1) := dw_at cX13_simplify_k1 (p := 9) rfl (by decide +kernel)
theorem dmX13_simplify_34 : decode cX13_simplify 34 = .ok (.istore_n 2, 1) := dw_at cX13_simplify_k1 (p := 10) rfl (by decide +kernel)
theorem dmX13_simplify_35 : decode cX13_simplify 35 = .ok (.iload_n 2, 1) := dw_at cX13_simplify_k1 (p := 11) rfl (by decide +kernel)
theorem dmX13_simplify_36 : decode cX13_simplify 36 = .ok (.aload_n 0, 1) := dw_at cX13_simplify_k1 (p := 12) rfl (by decide +kernel)
theorem dmX13_simplify_37 : decode cX13_simplify 37 = .ok (.getfield 110, 3) := dw_at cX13_simplify_k1 (p := 13) rfl (by decide +kernel)
theorem dmX13_simplify_40 : decode cX13_simplify 40 = .ok (.bipush 32, 2) := dw_at cX13_simplify_k1 (p := 16) rfl (by decide +kernel)
theorem dmX13_simplify_42 : decode cX13_simplify 42 = .ok (.iload_n 1, 1) := dw_at cX13_simplify_k1 (p := 18) rfl (by decide +kernel)
theorem dmX13_simplify_43 : decode cX13_simplify 43 = .ok (.imul, 1) := dw_at cX13_simplify_k1 (p := 19) rfl (by decide +kernel)
theorem dmX13_simplify_44 : decode cX13_simplify 44 = .ok (.iaload, 1) := dw_at cX13_simplify_k1 (p := 20) rfl (by decide +kernel)
theorem dmX13_simplify_45 : decode cX13_simplify 45 = .ok (.if_icmp .gt 26, 3) := dw_at cX13_simplify_k1 (p := 21) rfl (by decide +kernel)
theorem dmX13_simplify_48 : decode cX13_simplify 48 = .ok (.aload_n 0, 1) := dw_at cX13_simplify_k2 (p := 0) rfl (by decide +kernel)
theorem dmX13_simplify_49 : decode cX13_simplify 49 = .ok (.getfield 146, 3) := dw_at cX13_simplify_k2 (p := 1) rfl (by decide +kernel)
theorem dmX13_simplify_52 : decode cX13_simplify 52 = .ok (.iload_n 2, 1) := dw_at cX13_simplify_k2 (p := 4) rfl (by decide +kernel)
theorem dmX13_simplify_53 : decode cX13_simplify 53 = .ok (.aload_n 0, 1) := dw_at cX13_simplify_k2 (p := 5) rfl (by decide +kernel)
theorem dmX13_simplify_54 : decode cX13_simplify 54 = .ok (.getfield 110, 3) := dw_at cX13_simplify_k2 (p := 6) rfl (by decide +kernel)
theorem dmX13_simplify_57 : decode cX13_simplify 57 = .ok (.bipush 32, 2) := dw_at cX13_simplify_k2 (p := 9) rfl (by decide +kernel)
theorem dmX13_simplify_59 : decode cX13_simplify 59 = .ok (.iload_n 1, 1) := dw_at cX13_simplify_k2 (p := 11) rfl (by decide +kernel)
theorem dmX13_simplify_60 : decode cX13_simplify 60 = .ok (.imul, 1) := dw_at cX13_simplify_k2 (p := 12) rfl (by decide +kernel)
theorem dmX13_simplify_61 : decode cX13_simplify 61 = .ok (.iload_n 2, 1) := dw_at cX13_simplify_k2 (p := 13) rfl (by decide +kernel)
theorem dmX13_simplify_62 : decode cX13_simplify 62 = .ok (.iadd, 1) := dw_at cX13_simplify_k2 (p := 14) rfl (by decide +kernel)
theorem dmX13_simplify_63 : decode cX13_simplify 63 = .ok (.iaload, 1) := dw_at cX13_simplify_k2 (p := 15) rfl (by decide +kernel)
theorem dmX13_simplify_64 : decode cX13_simplify 64 = .ok (.iastore, 1) := dw_at cX13_simplify_k2 (p := 16) rfl (by decide +kernel)
theorem dmX13_simplify_65 : decode cX13_simplify 65 = .ok (.iinc 2 1, 3) := dw_at cX13_simplify_k2 (p := 17) rfl (by decide +kernel)
theorem dmX13_simplify_68 : decode cX13_simplify 68 = .ok (.goto (-33), 3) := dw_at cX13_simplify_k2 (p := 20) rfl (by decide +kernel)
theorem dmX13_simplify_71 : decode cX13_simplify 71 = .ok (.aload_n 0, 1) := dw_at cX13_simplify_k2 (p := 23) rfl (by decide +kernel)
theorem dmX13_simplify_72 : decode cX13_simplify 72 = .ok (.iconst 1, 1) := dw_at cX13_simplify_k3 (p := 0) rfl (by decide +kernel)
theorem dmX13_simplify_73 : decode cX13_simplify 73 = .ok (.putfield 482, 3) := dw_at cX13_simplify_k3 (p := 1) rfl (by decide +kernel)
theorem dmX13_simplify_76 : decode cX13_simplify 76 = .ok (.aload_n 0, 1) := dw_at cX13_simplify_k3 (p := 4) rfl (by decide +kernel)
theorem dmX13_simplify_77 : decode cX13_simplify 77 = .ok (.iconst 3, 1) := dw_at cX13_simplify_k3 (p := 5) rfl (by decide +kernel)
theorem dmX13_simplify_78 : decode cX13_simplify 78 = .ok (.putfield 465, 3) := dw_at cX13_simplify_k3 (p := 6) rfl (by decide +kernel)
theorem dmX13_simplify_81 : decode cX13_simplify 81 = .ok (.iconst 0, 1) := dw_at cX13_simplify_k3 (p := 9) rfl (by decide +kernel)
theorem dmX13_simplify_82 : decode cX13_simplify 82 = .ok (.istore_n 2, 1) := dw_at cX13_simplify_k3 (p := 10) rfl (by decide +kernel)
theorem dmX13_simplify_83 : decode cX13_simplify 83 = .ok (.iconst 0, 1) := dw_at cX13_simplify_k3 (p := 11) rfl (by decide +kernel)
theorem dmX13_simplify_84 : decode cX13_simplify 84 = .ok (.istore_n 3, 1) := dw_at cX13_simplify_k3 (p := 12) rfl (by decide +kernel)
theorem dmX13_simplify_85 : decode cX13_simplify 85 = .ok (.iload_n 3, 1) := dw_at cX13_simplify_k3 (p := 13) rfl (by decide +kernel)
theorem dmX13_simplify_86 : decode cX13_simplify 86 = .ok (.aload_n 0, 1) := dw_at cX13_simplify_k3 (p := 14) rfl (by decide +kernel)
theorem dmX13_simplify_87 : decode cX13_simplify 87 = .ok (.getfield 482, 3) := dw_at cX13_simplify_k3 (p := 15) rfl (by decide +kernel)
theorem dmX13_simplify_90 : decode cX13_simplify 90 = .ok (.if_icmp .ge 90, 3) := dw_at cX13_simplify_k3 (p := 18) rfl (by decide +kernel)
theorem dmX13_simplify_93 : decode cX13_simplify 93 = .ok (.aload_n 0, 1) := dw_at cX13_simplify_k3 (p := 21) rfl (by decide +kernel)
theorem dmX13_simplify_94 : decode cX13_simplify 94 = .ok (.getfield 482, 3) := dw_at cX13_simplify_k3 (p := 22) rfl (by decide +kernel)
theorem dmX13_simplify_97 : decode cX13_simplify 97 = .ok (.sipush 300, 3) := dw_at cX13_simplify_k4 (p := 0) rfl (by decide +kernel)
theorem dmX13_simplify_100 : decode cX13_simplify 100 = .ok (.if_icmp .gt 80, 3) := dw_at cX13_simplify_k4 (p := 3) rfl (by decide +kernel)
theorem dmX13_simplify_103 : decode cX13_simplify 103 = .ok (.aload_n 0, 1) := dw_at cX13_simplify_k4 (p := 6) rfl (by decide +kernel)
theorem dmX13_simplify_104 : decode cX13_simplify 104 = .ok (.getfield 146, 3) := dw_at cX13_simplify_k4 (p := 7) rfl (by decide +kernel)
theorem dmX13_simplify_107 : decode cX13_simplify 107 = .ok (.bipush 32, 2) := dw_at cX13_simplify_k4 (p := 10) rfl (by decide +kernel)
theorem dmX13_simplify_109 : decode cX13_simplify 109 = .ok (.iload_n 3, 1) := dw_at cX13_simplify_k4 (p := 12) rfl (by decide +kernel)
theorem dmX13_simplify_110 : decode cX13_simplify 110 = .ok (.imul, 1) := dw_at cX13_simplify_k4 (p := 13) rfl (by decide +kernel)
theorem dmX13_simplify_111 : decode cX13_simplify 111 = .ok (.aload_n 0, 1) := dw_at cX13_simplify_k4 (p := 14) rfl (by decide +kernel)
theorem dmX13_simplify_112 : decode cX13_simplify 112 = .ok (.getfield 146, 3) := dw_at cX13_simplify_k4 (p := 15) rfl (by decide +kernel)
theorem dmX13_simplify_115 : decode cX13_simplify 115 = .ok (.bipush 32, 2) := dw_at cX13_simplify_k4 (p := 18) rfl (by decide +kernel)
theorem dmX13_simplify_117 : decode cX13_simplify 117 = .ok (.iload_n 2, 1) := dw_at cX13_simplify_k4 (p := 20) rfl (by decide +kernel)
theorem dmX13_simplify_118 : decode cX13_simplify 118 = .ok (.imul, 1) := dw_at cX13_simplify_k4 (p := 21) rfl (by decide +kernel)
theorem dmX13_simplify_119 : decode cX13_simplify 119 = .ok (.invokestatic 488, 3) := dw_at cX13_simplify_k4 (p := 22) rfl (by decide +kernel)
theorem dmX13_simplify_122 : decode cX13_simplify 122 = .ok (.ifCond .eq 5, 3) := dw_at cX13_simplify_k5 (p := 0) rfl (by decide +kernel)
theorem dmX13_simplify_125 : decode cX13_simplify 125 = .ok (.iload_n 3, 1) := dw_at cX13_simplify_k5 (p := 3) rfl (by decide +kernel)
theorem dmX13_simplify_126 : decode cX13_simplify 126 = .ok (.istore_n 2, 1) := dw_at cX13_simplify_k5 (p := 4) rfl (by decide +kernel)
theorem dmX13_simplify_127 : decode cX13_simplify 127 = .ok (.iconst 0, 1) := dw_at cX13_simplify_k5 (p := 5) rfl (by decide +kernel)
theorem dmX13_simplify_128 : decode cX13_simplify 128 = .ok (.istore 4, 2) := dw_at cX13_simplify_k5 (p := 6) rfl (by decide +kernel)
theorem dmX13_simplify_130 : decode cX13_simplify 130 = .ok (.iload 4, 2) := dw_at cX13_simplify_k5 (p := 8) rfl (by decide +kernel)
theorem dmX13_simplify_132 : decode cX13_simplify 132 = .ok (.iconst 5, 1) := dw_at cX13_simplify_k5 (p := 10) rfl (by decide +kernel)
theorem dmX13_simplify_133 : decode cX13_simplify 133 = .ok (.if_icmp .ge 41, 3) := dw_at cX13_simplify_k5 (p := 11) rfl (by decide +kernel)
theorem dmX13_simplify_136 : decode cX13_simplify 136 = .ok (.aload_n 0, 1) := dw_at cX13_simplify_k5 (p := 14) rfl (by decide +kernel)
theorem dmX13_simplify_137 : decode cX13_simplify 137 = .ok (.getfield 146, 3) := dw_at cX13_simplify_k5 (p := 15) rfl (by decide +kernel)
theorem dmX13_simplify_140 : decode cX13_simplify 140 = .ok (.bipush 32, 2) := dw_at cX13_simplify_k5 (p := 18) rfl (by decide +kernel)
theorem dmX13_simplify_142 : decode cX13_simplify 142 = .ok (.iload_n 3, 1) := dw_at cX13_simplify_k5 (p := 20) rfl (by decide +kernel)
theorem dmX13_simplify_143 : decode cX13_simplify 143 = .ok (.imul, 1) := dw_at cX13_simplify_k5 (p := 21) rfl (by decide +kernel)
theorem dmX13_simplify_144 : decode cX13_simplify 144 = .ok (.aload_n 0, 1) := dw_at cX13_simplify_k5 (p := 22) rfl (by decide +kernel)
theorem dmX13_simplify_145 : decode cX13_simplify 145 = .ok (.getfield 114, 3) := dw_at cX13_simplify_k5 (p := 23) rfl (by decide +kernel)
theorem dmX13_simplify_148 : decode cX13_simplify 148 = .ok (.invokestatic 430, 3) := dw_at cX13_simplify_k6 (p := 0) rfl (by decide +kernel)
theorem dmX13_simplify_151 : decode cX13_simplify 151 = .ok (.aload_n 0, 1) := dw_at cX13_simplify_k6 (p := 3) rfl (by decide +kernel)
theorem dmX13_simplify_152 : decode cX13_simplify 152 = .ok (.getfield 114, 3) := dw_at cX13_simplify_k6 (p := 4) rfl (by decide +kernel)
theorem dmX13_simplify_155 : decode cX13_simplify 155 = .ok (.invokevirtual 71, 3) := dw_at cX13_simplify_k6 (p := 7) rfl (by decide +kernel)
theorem dmX13_simplify_158 : decode cX13_simplify 158 = .ok (.aload_n 0, 1) := dw_at cX13_simplify_k6 (p := 10) rfl (by decide +kernel)
theorem dmX13_simplify_159 : decode cX13_simplify 159 = .ok (.aload_n 0, 1) := dw_at cX13_simplify_k6 (p := 11) rfl (by decide +kernel)
theorem dmX13_simplify_160 : decode cX13_simplify 160 = .ok (.getfield 114, 3) := dw_at cX13_simplify_k6 (p := 12) rfl (by decide +kernel)
theorem dmX13_simplify_163 : decode cX13_simplify 163 = .ok (.iload 4, 2) := dw_at cX13_simplify_k6 (p := 15) rfl (by decide +kernel)
theorem dmX13_simplify_165 : decode cX13_simplify 165 = .ok (.invokevirtual 543, 3) := dw_at cX13_simplify_k6 (p := 17) rfl (by decide +kernel)
theorem dmX13_simplify_168 : decode cX13_simplify 168 = .ok (.iinc 4 2, 3) := dw_at cX13_simplify_k6 (p := 20) rfl (by decide +kernel)
theorem dmX13_simplify_171 : decode cX13_simplify 171 = .ok (.goto (-41), 3) := dw_at cX13_simplify_k6 (p := 23) rfl (by decide +kernel)
theorem dmX13_simplify_174 : decode cX13_simplify 174 = .ok (.iinc 3 1, 3) := dw_at cX13_simplify_k7 (p := 0) rfl (by decide +kernel)
theorem dmX13_simplify_177 : decode cX13_simplify 177 = .ok (.goto (-92), 3) := dw_at cX13_simplify_k7 (p := 3) rfl (by decide +kernel)
theorem dmX13_simplify_180 : decode cX13_simplify 180 = .ok (.aload_n 0, 1) := dw_at cX13_simplify_k7 (p := 6) rfl (by decide +kernel)
theorem dmX13_simplify_181 : decode cX13_simplify 181 = .ok (.getfield 482, 3) := dw_at cX13_simplify_k7 (p := 7) rfl (by decide +kernel)
theorem dmX13_simplify_184 : decode cX13_simplify 184 = .ok (.sipush 300, 3) := dw_at cX13_simplify_k7 (p := 10) rfl (by decide +kernel)
theorem dmX13_simplify_187 : decode cX13_simplify 187 = .ok (.if_icmp .le 8, 3) := dw_at cX13_simplify_k7 (p := 13) rfl (by decide +kernel)
theorem dmX13_simplify_190 : decode cX13_simplify 190 = .ok (.bipush (-2), 2) := dw_at cX13_simplify_k7 (p := 16) rfl (by decide +kernel)
theorem dmX13_simplify_192 : decode cX13_simplify 192 = .ok (.goto 15, 3) := dw_at cX13_simplify_k7 (p := 18) rfl (by decide +kernel)
theorem dmX13_simplify_195 : decode cX13_simplify 195 = .ok (.aload_n 0, 1) := dw_at cX13_simplify_k7 (p := 21) rfl (by decide +kernel)
theorem dmX13_simplify_196 : decode cX13_simplify 196 = .ok (.aload_n 0, 1) := dw_at cX13_simplify_k7 (p := 22) rfl (by decide +kernel)
theorem dmX13_simplify_197 : decode cX13_simplify 197 = .ok (.getfield 146, 3) := dw_at cX13_simplify_k7 (p := 23) rfl (by decide +kernel)
theorem dmX13_simplify_200 : decode cX13_simplify 200 = .ok (.bipush 32, 2) := dw_at cX13_simplify_k8 (p := 0) rfl (by decide +kernel)
theorem dmX13_simplify_202 : decode cX13_simplify 202 = .ok (.iload_n 2, 1) := dw_at cX13_simplify_k8 (p := 2) rfl (by decide +kernel)
theorem dmX13_simplify_203 : decode cX13_simplify 203 = .ok (.imul, 1) := dw_at cX13_simplify_k8 (p := 3) rfl (by decide +kernel)
theorem dmX13_simplify_204 : decode cX13_simplify 204 = .ok (.invokevirtual 546, 3) := dw_at cX13_simplify_k8 (p := 4) rfl (by decide +kernel)
theorem dmX13_simplify_207 : decode cX13_simplify 207 = .ok (.ireturn, 1) := dw_at cX13_simplify_k8 (p := 7) rfl (by decide +kernel)
def qm_X13_simplify_0 (K : Nat) (go : Nat → Int32 → Int32 → Int32 → Int32 → ow_MS → Option (Int32 × ow_MS)) (x1 : Int32) (x2 : Int32) (x3 : Int32) (x4 : Int32) (z : ow_MS) : Option (Int32 × ow_MS) :=
 wrF z 1 0 fun z1 => cs1 (qe_X13_has K x1 z1) fun v3 z2 => (if v3 = 0 then cs1 (qe_X13_fails K 1 z2) fun v9 z8 => some (v9, z8)
 else cs1 (qe_X13_free K z2) fun v5 z4 => (if v5 = (-1) then cs1 (qe_X13_fails K 2 z4) fun v7 z6 => some (v7, z6)
 else go 1 x1 0 0 0 z4))
def qm_X13_simplify_1 (K : Nat) (go : Nat → Int32 → Int32 → Int32 → Int32 → ow_MS → Option (Int32 × ow_MS)) (x1 : Int32) (x2 : Int32) (x3 : Int32) (x4 : Int32) (z : ow_MS) : Option (Int32 × ow_MS) :=
 rdI mX z 12 (32 * x1) fun v10 => (if v10 < x2 then wrF z 26 1 fun z11 => wrF z11 30 3 fun z12 => go 2 x1 0 0 0 z12
 else rdI mX z 12 ((32 * x1) + x2) fun v13 => wrI mX z 25 x2 v13 fun z14 => go 1 x1 (x2 + 1) 0 0 z14)
def qm_X13_simplify_2 (K : Nat) (go : Nat → Int32 → Int32 → Int32 → Int32 → ow_MS → Option (Int32 × ow_MS)) (x1 : Int32) (x2 : Int32) (x3 : Int32) (x4 : Int32) (z : ow_MS) : Option (Int32 × ow_MS) :=
 rdF z 26 fun v15 => (if v15 ≤ x3 then go 5 x1 x2 x3 0 z
 else rdF z 26 fun v16 => (if 300 < v16 then go 5 x1 x2 x3 0 z
 else cs1 (qe_X13_isLesser K 25 (32 * x3) 25 (32 * x2) z) fun v18 z17 => (if v18 = 0 then go 3 x1 x2 x3 0 z17
 else go 3 x1 x3 x3 0 z17)))
def qm_X13_simplify_3 (K : Nat) (go : Nat → Int32 → Int32 → Int32 → Int32 → ow_MS → Option (Int32 × ow_MS)) (x1 : Int32) (x2 : Int32) (x3 : Int32) (x4 : Int32) (z : ow_MS) : Option (Int32 × ow_MS) :=
 go 4 x1 x2 x3 0 z
def qm_X13_simplify_4 (K : Nat) (go : Nat → Int32 → Int32 → Int32 → Int32 → ow_MS → Option (Int32 × ow_MS)) (x1 : Int32) (x2 : Int32) (x3 : Int32) (x4 : Int32) (z : ow_MS) : Option (Int32 × ow_MS) :=
 (if 5 ≤ x4 then go 2 x1 x2 (x3 + 1) 0 z
 else cs0 (qe_X13_unpack K 25 (32 * x3) 1000 z) fun z19 => cs0 (qe_X12_link K 1000 z19) fun z20 => cs0 (qe_X13_tryMoves K 1000 x4 z20) fun z21 => go 4 x1 x2 x3 (x4 + 2) z21)
def qm_X13_simplify_5 (K : Nat) (go : Nat → Int32 → Int32 → Int32 → Int32 → ow_MS → Option (Int32 × ow_MS)) (x1 : Int32) (x2 : Int32) (x3 : Int32) (x4 : Int32) (z : ow_MS) : Option (Int32 × ow_MS) :=
 rdF z 26 fun v22 => (if v22 ≤ 300 then cs1 (qe_X13_keepRow K 25 (32 * x2) z) fun v24 z23 => some (v24, z23)
 else some ((-2), z))
def qb_X13_simplify (K : Nat) (go : Nat → Int32 → Int32 → Int32 → Int32 → ow_MS → Option (Int32 × ow_MS)) (L : Nat) (x1 : Int32) (x2 : Int32) (x3 : Int32) (x4 : Int32) (z : ow_MS) : Option (Int32 × ow_MS) := match L with
  | 0 => qm_X13_simplify_0 K go x1 x2 x3 x4 z
  | 1 => qm_X13_simplify_1 K go x1 x2 x3 x4 z
  | 2 => qm_X13_simplify_2 K go x1 x2 x3 x4 z
  | 3 => qm_X13_simplify_3 K go x1 x2 x3 x4 z
  | 4 => qm_X13_simplify_4 K go x1 x2 x3 x4 z
  | 5 => qm_X13_simplify_5 K go x1 x2 x3 x4 z
  | _ => none
def q_X13_simplify (K : Nat) : Nat → Nat → Int32 → Int32 → Int32 → Int32 → ow_MS → Option (Int32 × ow_MS)
  | 0 => fun _ _ _ _ _ _ => none
  | k + 1 => qb_X13_simplify K (q_X13_simplify K k)
def qe_X13_simplify (K : Nat) (x1 : Int32) (z : ow_MS) : Option (Int32 × ow_MS) := q_X13_simplify K K 0 x1 0 0 0 z
abbrev wm_X13_simplify : List Cond := .code yX13_simplify cX13_simplify 5 (some .int) :: wM
theorem cd_X13_simplify : yX13_simplify.cls = RX13 ∧ yX13_simplify.cls ≠ "java/lang/invoke/MethodHandle" ∧ yX13_simplify.cls ≠ "java/lang/invoke/VarHandle" ∧ (parseMethodDescriptor yX13_simplify.desc).map (fun d => d.parameters.length) = some 1 := by decide +kernel
set_option maxHeartbeats 4000000 in
set_option maxRecDepth 100000 in
theorem km_X13_simplify (l : Launch) (D : va_G) (q : ow_Q5) (u : Nat → Nat) (hU : tw_inj mX u) (K : Nat) (x1 : Int32)  (z z1 : ow_MS) (r : Int32) (hq : qe_X13_simplify K x1 z = some (r, z1)) : Met l yX13_simplify wm_X13_simplify ({ frames := 8, cells := 0, slots := 0, locals := 208 } : Room) (va_Pc [.ref (u 0), .int x1] (mw_pre D q u z)) (va_Qi (fun x (_ : Unit) => x = r) (fun _ t => va_P D vwCl (tw mX q u z1) t.heap) (tw_A mX u)) 0 0 (tw_A mX u) := by
  refine Met.ofW (cc := cX13_simplify) (maxL := 5) (ret := (some .int)) (by decide) rfl ?_
  intro p e s m args below meth c s₁ B hml hv
  obtain ⟨rfl, hP, hK, hN⟩ := hv
  have hx := B.exec
  have hb := B.bytes
  have hr := B.returns
  have hts := atoms_spec (ws := wm_X13_simplify) B.pre
  have hT : ∀ w ∈ wM, w.before ([.ref (u 0), .int x1] : List Value).toArray s = true := fun w h => hts w (List.mem_cons_of_mem _ h)
  have hown : s.vm.findClass RX13 = some m.cls := findClass_of_methodNamed B.named
  have hlocks := B.notSynchronized
  have hM : tw_M D vwCl mX q s.heap u z s.heap [] := ⟨hP, va_S.rf⟩
  have hl := lv_entry ([.ref (u 0), .int x1]) (n := 5) (Nat.le_of_ble_eq_true rfl)
  rw [lg_entry_eq]
  generalize (lg_sl ([.ref (u 0), .int x1]) ++ List.replicate (5 - (lg_sl ([.ref (u 0), .int x1])).length) Slot.unset).toArray = ls at hl ⊢
  have hl : lv_has ls 5 [(0, .ref (u 0)), (1, .int x1)] := hl
  refine ow_named (fun QQ hQQ => ?_)
  generalize ([.ref (u 0), .int x1] : List Value).toArray = args at hts hT hQQ ⊢
  have key : ∀ k : Nat, (∀ (x1 : Int32) (x2 : Int32) (x3 : Int32) (x4 : Int32) (z : ow_MS) (H : Heap) (locs : List Loc) (ls : Array Slot), tw_M D vwCl mX q s.heap u z H locs → lv_has ls 5 [(0, .ref (u 0)), (1, .int x1)] → q_X13_simplify K k 0 x1 x2 x3 x4 z = some (r, z1) → W p l e ({ frames := 8, cells := 0, slots := 0, locals := 208 } : Room) s m args below meth c H locs 0 0 QQ (F0 m 0 ls [])) ∧ (∀ (x1 : Int32) (x2 : Int32) (x3 : Int32) (x4 : Int32) (z : ow_MS) (H : Heap) (locs : List Loc) (ls : Array Slot), tw_M D vwCl mX q s.heap u z H locs → lv_has ls 5 [(0, .ref (u 0)), (1, .int x1), (2, .int x2)] → q_X13_simplify K k 1 x1 x2 x3 x4 z = some (r, z1) → W p l e ({ frames := 8, cells := 0, slots := 0, locals := 208 } : Room) s m args below meth c H locs 0 0 QQ (F0 m 35 ls [])) ∧ (∀ (x1 : Int32) (x2 : Int32) (x3 : Int32) (x4 : Int32) (z : ow_MS) (H : Heap) (locs : List Loc) (ls : Array Slot), tw_M D vwCl mX q s.heap u z H locs → lv_has ls 5 [(0, .ref (u 0)), (1, .int x1), (2, .int x2), (3, .int x3)] → q_X13_simplify K k 2 x1 x2 x3 x4 z = some (r, z1) → W p l e ({ frames := 8, cells := 0, slots := 0, locals := 208 } : Room) s m args below meth c H locs 0 0 QQ (F0 m 85 ls [])) ∧ (∀ (x1 : Int32) (x2 : Int32) (x3 : Int32) (x4 : Int32) (z : ow_MS) (H : Heap) (locs : List Loc) (ls : Array Slot), tw_M D vwCl mX q s.heap u z H locs → lv_has ls 5 [(0, .ref (u 0)), (1, .int x1), (2, .int x2), (3, .int x3)] → q_X13_simplify K k 3 x1 x2 x3 x4 z = some (r, z1) → W p l e ({ frames := 8, cells := 0, slots := 0, locals := 208 } : Room) s m args below meth c H locs 0 0 QQ (F0 m 127 ls [])) ∧ (∀ (x1 : Int32) (x2 : Int32) (x3 : Int32) (x4 : Int32) (z : ow_MS) (H : Heap) (locs : List Loc) (ls : Array Slot), tw_M D vwCl mX q s.heap u z H locs → lv_has ls 5 [(0, .ref (u 0)), (1, .int x1), (2, .int x2), (3, .int x3), (4, .int x4)] → q_X13_simplify K k 4 x1 x2 x3 x4 z = some (r, z1) → W p l e ({ frames := 8, cells := 0, slots := 0, locals := 208 } : Room) s m args below meth c H locs 0 0 QQ (F0 m 130 ls [])) ∧ (∀ (x1 : Int32) (x2 : Int32) (x3 : Int32) (x4 : Int32) (z : ow_MS) (H : Heap) (locs : List Loc) (ls : Array Slot), tw_M D vwCl mX q s.heap u z H locs → lv_has ls 5 [(0, .ref (u 0)), (1, .int x1), (2, .int x2), (3, .int x3)] → q_X13_simplify K k 5 x1 x2 x3 x4 z = some (r, z1) → W p l e ({ frames := 8, cells := 0, slots := 0, locals := 208 } : Room) s m args below meth c H locs 0 0 QQ (F0 m 180 ls [])) := by
    intro k
    induction k with
    | zero => exact ⟨fun _ _ _ _ _ _ _ _  _ _ hq => tw_no hq, fun _ _ _ _ _ _ _ _  _ _ hq => tw_no hq, fun _ _ _ _ _ _ _ _  _ _ hq => tw_no hq, fun _ _ _ _ _ _ _ _  _ _ hq => tw_no hq, fun _ _ _ _ _ _ _ _  _ _ hq => tw_no hq, fun _ _ _ _ _ _ _ _  _ _ hq => tw_no hq⟩
    | succ k ih =>
      obtain ⟨ih_0, ih_1, ih_2, ih_3, ih_4, ih_5⟩ := ih
      refine ⟨?_, ?_, ?_, ?_, ?_, ?_⟩
      · intro x1 x2 x3 x4 z H locs ls  hM hl hq
        have hq : qm_X13_simplify_0 K (q_X13_simplify K k) x1 x2 x3 x4 z = some (r, z1) := hq
        unfold qm_X13_simplify_0 at hq
        refine lv_aload_n hx hb dmX13_simplify_0 rfl (lv_at hl 0 rfl) ?_
        refine lv_iconst (v := 0) hx hb dmX13_simplify_1 (by decide) ?_
        refine mp13_1 hx hb hT hown hK hM hU hq dmX13_simplify_2 (fun z1 H locs hM hq => ?_)
        refine lv_aload_n hx hb dmX13_simplify_5 rfl (lv_at hl 0 rfl) ?_
        refine lv_iload_n hx hb dmX13_simplify_6 rfl (lv_at hl 1 rfl) ?_
        obtain ⟨v3, z2, hcq, hq⟩ := tw_cl1 hq
        refine tw_cali hM (va_runV (As := [.int x1]) (rest := []) ⟨hx, hb, hml, hown, hts⟩ (km_X13_has l D q u hU K x1 z1 z2 v3 hcq) (cwV 1 hts (tw_gV wM_good wq_127 wq_128 wq_129 wq_61 wq_90) rfl rfl rfl cd_X13_has ⟨(Nat.le_of_ble_eq_true rfl), (Nat.le_of_ble_eq_true rfl)⟩) (mw_preV hK hN hM mo_0 rfl) rfl rfl hl.1 rfl (lv_room (Nat.le_of_ble_eq_true rfl)) dmX13_simplify_7 ⟨(Nat.le_of_ble_eq_true rfl), (Nat.le_of_ble_eq_true rfl)⟩) (fun H locs hM => ?_)
        refine lv_if_ne (tgt := 19) hx hb dmX13_simplify_10 (by decide) (fun hc => ?_) (fun hc => ?_)
        · have hq := tw_if hq hc
          refine lv_aload_n hx hb dmX13_simplify_19 rfl (lv_at hl 0 rfl) ?_
          obtain ⟨v5, z4, hcq, hq⟩ := tw_cl1 hq
          refine tw_cali hM (va_runV (As := []) (rest := []) ⟨hx, hb, hml, hown, hts⟩ (km_X13_free l D q u hU K z2 z4 v5 hcq) (cwV 0 hts (tw_gV wM_good wq_93 wq_94 wq_95 wq_61 wq_91) rfl rfl rfl cd_X13_free ⟨(Nat.le_of_ble_eq_true rfl), (Nat.le_of_ble_eq_true rfl)⟩) (mw_preV hK hN hM mo_0 rfl) rfl rfl hl.1 rfl (lv_room (Nat.le_of_ble_eq_true rfl)) dmX13_simplify_20 ⟨(Nat.le_of_ble_eq_true rfl), (Nat.le_of_ble_eq_true rfl)⟩) (fun H locs hM => ?_)
          refine lv_iconst (v := (-1)) hx hb dmX13_simplify_23 (by decide) ?_
          refine lv_icmp_ne (tgt := 33) hx hb dmX13_simplify_24 (by decide) (fun hc => ?_) (fun hc => ?_)
          · have hq := tw_if hq hc
            refine lv_iconst (v := 0) hx hb dmX13_simplify_33 (by decide) ?_
            refine lv_istore_n (lv' := [(2, .int 0), (0, .ref (u 0)), (1, .int x1)]) hx hb dmX13_simplify_34 rfl hl (by decide) rfl (fun ls hl => ?_)
            exact ih_1 x1 0 0 0 z4 H locs ls hM (lv_sub hl [1, 2, 0] rfl) hq
          · have hq := tw_it hq hc
            refine lv_aload_n hx hb dmX13_simplify_27 rfl (lv_at hl 0 rfl) ?_
            refine lv_iconst (v := 2) hx hb dmX13_simplify_28 (by decide) ?_
            obtain ⟨v7, z6, hcq, hq⟩ := tw_cl1 hq
            refine tw_cali hM (va_runV (As := [.int 2]) (rest := []) ⟨hx, hb, hml, hown, hts⟩ (km_X13_fails l D q u hU K 2 z4 z6 v7 hcq) (cwV 1 hts (tw_gV wM_good wq_103 wq_104 wq_105 wq_61 wq_50) rfl rfl rfl cd_X13_fails ⟨(Nat.le_of_ble_eq_true rfl), (Nat.le_of_ble_eq_true rfl)⟩) (mw_preV hK hN hM mo_0 rfl) rfl rfl hl.1 rfl (lv_room (Nat.le_of_ble_eq_true rfl)) dmX13_simplify_29 ⟨(Nat.le_of_ble_eq_true rfl), (Nat.le_of_ble_eq_true rfl)⟩) (fun H locs hM => ?_)
            exact mw_iret hx hb hr hlocks hM hq hQQ dmX13_simplify_32
        · have hq := tw_it hq hc
          refine lv_aload_n hx hb dmX13_simplify_13 rfl (lv_at hl 0 rfl) ?_
          refine lv_iconst (v := 1) hx hb dmX13_simplify_14 (by decide) ?_
          obtain ⟨v9, z8, hcq, hq⟩ := tw_cl1 hq
          refine tw_cali hM (va_runV (As := [.int 1]) (rest := []) ⟨hx, hb, hml, hown, hts⟩ (km_X13_fails l D q u hU K 1 z2 z8 v9 hcq) (cwV 1 hts (tw_gV wM_good wq_103 wq_104 wq_105 wq_61 wq_50) rfl rfl rfl cd_X13_fails ⟨(Nat.le_of_ble_eq_true rfl), (Nat.le_of_ble_eq_true rfl)⟩) (mw_preV hK hN hM mo_0 rfl) rfl rfl hl.1 rfl (lv_room (Nat.le_of_ble_eq_true rfl)) dmX13_simplify_15 ⟨(Nat.le_of_ble_eq_true rfl), (Nat.le_of_ble_eq_true rfl)⟩) (fun H locs hM => ?_)
          exact mw_iret hx hb hr hlocks hM hq hQQ dmX13_simplify_18
      · intro x1 x2 x3 x4 z H locs ls  hM hl hq
        have hq : qm_X13_simplify_1 K (q_X13_simplify K k) x1 x2 x3 x4 z = some (r, z1) := hq
        unfold qm_X13_simplify_1 at hq
        refine lv_iload_n hx hb dmX13_simplify_35 rfl (lv_at hl 2 rfl) ?_
        refine lv_aload_n hx hb dmX13_simplify_36 rfl (lv_at hl 0 rfl) ?_
        refine mg13_110 hx hb hT hown hK hM dmX13_simplify_37 ?_
        refine lv_bipush (v := 32) hx hb dmX13_simplify_40 (by decide) ?_
        refine lv_iload_n hx hb dmX13_simplify_42 rfl (lv_at hl 1 rfl) ?_
        refine lv_imul hx hb dmX13_simplify_43 ?_
        refine tw_iald mX_ok hx hb hK hM mr_12 hq dmX13_simplify_44 (fun v10 hq => ?_)
        refine lv_icmp_gt (tgt := 71) hx hb dmX13_simplify_45 (by decide) (fun hc => ?_) (fun hc => ?_)
        · have hq := tw_it hq hc
          refine lv_aload_n hx hb dmX13_simplify_71 rfl (lv_at hl 0 rfl) ?_
          refine lv_iconst (v := 1) hx hb dmX13_simplify_72 (by decide) ?_
          refine mp13_482 hx hb hT hown hK hM hU hq dmX13_simplify_73 (fun z11 H locs hM hq => ?_)
          refine lv_aload_n hx hb dmX13_simplify_76 rfl (lv_at hl 0 rfl) ?_
          refine lv_iconst (v := 3) hx hb dmX13_simplify_77 (by decide) ?_
          refine mp13_465 hx hb hT hown hK hM hU hq dmX13_simplify_78 (fun z12 H locs hM hq => ?_)
          refine lv_iconst (v := 0) hx hb dmX13_simplify_81 (by decide) ?_
          refine lv_istore_n (lv' := [(2, .int 0), (0, .ref (u 0)), (1, .int x1)]) hx hb dmX13_simplify_82 rfl hl (by decide) rfl (fun ls hl => ?_)
          refine lv_iconst (v := 0) hx hb dmX13_simplify_83 (by decide) ?_
          refine lv_istore_n (lv' := [(3, .int 0), (2, .int 0), (0, .ref (u 0)), (1, .int x1)]) hx hb dmX13_simplify_84 rfl hl (by decide) rfl (fun ls hl => ?_)
          exact ih_2 x1 0 0 0 z12 H locs ls hM (lv_sub hl [2, 3, 1, 0] rfl) hq
        · have hq := tw_if hq hc
          refine lv_aload_n hx hb dmX13_simplify_48 rfl (lv_at hl 0 rfl) ?_
          refine mg13_146 hx hb hT hown hK hM dmX13_simplify_49 ?_
          refine lv_iload_n hx hb dmX13_simplify_52 rfl (lv_at hl 2 rfl) ?_
          refine lv_aload_n hx hb dmX13_simplify_53 rfl (lv_at hl 0 rfl) ?_
          refine mg13_110 hx hb hT hown hK hM dmX13_simplify_54 ?_
          refine lv_bipush (v := 32) hx hb dmX13_simplify_57 (by decide) ?_
          refine lv_iload_n hx hb dmX13_simplify_59 rfl (lv_at hl 1 rfl) ?_
          refine lv_imul hx hb dmX13_simplify_60 ?_
          refine lv_iload_n hx hb dmX13_simplify_61 rfl (lv_at hl 2 rfl) ?_
          refine lv_iadd hx hb dmX13_simplify_62 ?_
          refine tw_iald mX_ok hx hb hK hM mr_12 hq dmX13_simplify_63 (fun v13 hq => ?_)
          refine tw_iast mX_ok hU hx hb hK hM mr_25 hq dmX13_simplify_64 (fun z14 H locs hM hq => ?_)
          refine lv_iinc (v := (x2 + 1)) (lv' := [(2, .int (x2 + 1)), (0, .ref (u 0)), (1, .int x1)]) hx hb dmX13_simplify_65 hl (k := 2) rfl rfl (by decide) rfl (fun ls hl => ?_)
          refine lv_goto (tgt := 35) hx hb dmX13_simplify_68 (by decide) ?_
          exact ih_1 x1 (x2 + 1) 0 0 z14 H locs ls hM (lv_sub hl [1, 2, 0] rfl) hq
      · intro x1 x2 x3 x4 z H locs ls  hM hl hq
        have hq : qm_X13_simplify_2 K (q_X13_simplify K k) x1 x2 x3 x4 z = some (r, z1) := hq
        unfold qm_X13_simplify_2 at hq
        refine lv_iload_n hx hb dmX13_simplify_85 rfl (lv_at hl 3 rfl) ?_
        refine lv_aload_n hx hb dmX13_simplify_86 rfl (lv_at hl 0 rfl) ?_
        refine mg13_482 hx hb hT hown hK hM hq dmX13_simplify_87 (fun v15 hq => ?_)
        refine lv_icmp_ge (tgt := 180) hx hb dmX13_simplify_90 (by decide) (fun hc => ?_) (fun hc => ?_)
        · have hq := tw_it hq hc
          exact ih_5 x1 x2 x3 0 z H locs ls hM (lv_sub hl [0, 1, 2, 3] rfl) hq
        · have hq := tw_if hq hc
          refine lv_aload_n hx hb dmX13_simplify_93 rfl (lv_at hl 0 rfl) ?_
          refine mg13_482 hx hb hT hown hK hM hq dmX13_simplify_94 (fun v16 hq => ?_)
          refine lv_sipush (v := 300) hx hb dmX13_simplify_97 (by decide) ?_
          refine lv_icmp_gt (tgt := 180) hx hb dmX13_simplify_100 (by decide) (fun hc => ?_) (fun hc => ?_)
          · have hq := tw_it hq hc
            exact ih_5 x1 x2 x3 0 z H locs ls hM (lv_sub hl [0, 1, 2, 3] rfl) hq
          · have hq := tw_if hq hc
            refine lv_aload_n hx hb dmX13_simplify_103 rfl (lv_at hl 0 rfl) ?_
            refine mg13_146 hx hb hT hown hK hM dmX13_simplify_104 ?_
            refine lv_bipush (v := 32) hx hb dmX13_simplify_107 (by decide) ?_
            refine lv_iload_n hx hb dmX13_simplify_109 rfl (lv_at hl 3 rfl) ?_
            refine lv_imul hx hb dmX13_simplify_110 ?_
            refine lv_aload_n hx hb dmX13_simplify_111 rfl (lv_at hl 0 rfl) ?_
            refine mg13_146 hx hb hT hown hK hM dmX13_simplify_112 ?_
            refine lv_bipush (v := 32) hx hb dmX13_simplify_115 (by decide) ?_
            refine lv_iload_n hx hb dmX13_simplify_117 rfl (lv_at hl 2 rfl) ?_
            refine lv_imul hx hb dmX13_simplify_118 ?_
            obtain ⟨v18, z17, hcq, hq⟩ := tw_cl1 hq
            refine tw_cali hM (va_runS (As := [.ref (u 25), .int (32 * x3), .ref (u 25), .int (32 * x2)]) (rest := []) ⟨hx, hb, hml, hown, hts⟩ (km_X13_isLesser l D q u hU K 25 (32 * x3) 25 (32 * x2) mr_25 mr_25 z z17 v18 hcq) (va_cwS 4 hts (tw_gS wM_good wq_185 wq_186 wq_61 wq_73) rfl rfl rfl cd_X13_isLesser ⟨(Nat.le_of_ble_eq_true rfl), (Nat.le_of_ble_eq_true rfl)⟩) (mw_preS hK hN hM) rfl rfl hl.1 rfl (lv_room (Nat.le_of_ble_eq_true rfl)) dmX13_simplify_119 ⟨(Nat.le_of_ble_eq_true rfl), (Nat.le_of_ble_eq_true rfl)⟩) (fun H locs hM => ?_)
            refine lv_if_eq (tgt := 127) hx hb dmX13_simplify_122 (by decide) (fun hc => ?_) (fun hc => ?_)
            · have hq := tw_it hq hc
              exact ih_3 x1 x2 x3 0 z17 H locs ls hM (lv_sub hl [0, 1, 2, 3] rfl) hq
            · have hq := tw_if hq hc
              refine lv_iload_n hx hb dmX13_simplify_125 rfl (lv_at hl 3 rfl) ?_
              refine lv_istore_n (lv' := [(2, .int x3), (0, .ref (u 0)), (1, .int x1), (3, .int x3)]) hx hb dmX13_simplify_126 rfl hl (by decide) rfl (fun ls hl => ?_)
              exact ih_3 x1 x3 x3 0 z17 H locs ls hM (lv_sub hl [1, 2, 0, 3] rfl) hq
      · intro x1 x2 x3 x4 z H locs ls  hM hl hq
        have hq : qm_X13_simplify_3 K (q_X13_simplify K k) x1 x2 x3 x4 z = some (r, z1) := hq
        unfold qm_X13_simplify_3 at hq
        refine lv_iconst (v := 0) hx hb dmX13_simplify_127 (by decide) ?_
        refine lv_istore (lv' := [(4, .int 0), (0, .ref (u 0)), (1, .int x1), (2, .int x2), (3, .int x3)]) hx hb dmX13_simplify_128 hl (by decide) rfl (fun ls hl => ?_)
        exact ih_4 x1 x2 x3 0 z H locs ls hM (lv_sub hl [1, 2, 3, 4, 0] rfl) hq
      · intro x1 x2 x3 x4 z H locs ls  hM hl hq
        have hq : qm_X13_simplify_4 K (q_X13_simplify K k) x1 x2 x3 x4 z = some (r, z1) := hq
        unfold qm_X13_simplify_4 at hq
        refine lv_iload hx hb dmX13_simplify_130 (lv_at hl 4 rfl) ?_
        refine lv_iconst (v := 5) hx hb dmX13_simplify_132 (by decide) ?_
        refine lv_icmp_ge (tgt := 174) hx hb dmX13_simplify_133 (by decide) (fun hc => ?_) (fun hc => ?_)
        · have hq := tw_it hq hc
          refine lv_iinc (v := (x3 + 1)) (lv' := [(3, .int (x3 + 1)), (0, .ref (u 0)), (1, .int x1), (2, .int x2), (4, .int x4)]) hx hb dmX13_simplify_174 hl (k := 3) rfl rfl (by decide) rfl (fun ls hl => ?_)
          refine lv_goto (tgt := 85) hx hb dmX13_simplify_177 (by decide) ?_
          exact ih_2 x1 x2 (x3 + 1) 0 z H locs ls hM (lv_sub hl [1, 2, 3, 0] rfl) hq
        · have hq := tw_if hq hc
          refine lv_aload_n hx hb dmX13_simplify_136 rfl (lv_at hl 0 rfl) ?_
          refine mg13_146 hx hb hT hown hK hM dmX13_simplify_137 ?_
          refine lv_bipush (v := 32) hx hb dmX13_simplify_140 (by decide) ?_
          refine lv_iload_n hx hb dmX13_simplify_142 rfl (lv_at hl 3 rfl) ?_
          refine lv_imul hx hb dmX13_simplify_143 ?_
          refine lv_aload_n hx hb dmX13_simplify_144 rfl (lv_at hl 0 rfl) ?_
          refine mg13_114 hx hb hT hown hK hM dmX13_simplify_145 ?_
          obtain ⟨z19, hcq, hq⟩ := tw_cl0 hq
          refine tw_calv hM (va_runS (As := [.ref (u 25), .int (32 * x3), .ref (u 1000)]) (rest := []) ⟨hx, hb, hml, hown, hts⟩ (km_X13_unpack l D q u hU K 25 (32 * x3) 1000 mr_25 mw_n1 z z19 hcq) (va_cwS 3 hts (tw_gS wM_good wq_134 wq_135 wq_61 wq_88) rfl rfl rfl cd_X13_unpack ⟨(Nat.le_of_ble_eq_true rfl), (Nat.le_of_ble_eq_true rfl)⟩) (mw_preS hK hN hM) rfl rfl hl.1 rfl (lv_room (Nat.le_of_ble_eq_true rfl)) dmX13_simplify_148 ⟨(Nat.le_of_ble_eq_true rfl), (Nat.le_of_ble_eq_true rfl)⟩) (fun H locs hM => ?_)
          refine lv_aload_n hx hb dmX13_simplify_151 rfl (lv_at hl 0 rfl) ?_
          refine mg13_114 hx hb hT hown hK hM dmX13_simplify_152 ?_
          obtain ⟨z20, hcq, hq⟩ := tw_cl0 hq
          refine tw_calv hM (va_runV (As := []) (rest := []) ⟨hx, hb, hml, hown, hts⟩ (km_X12_link l D q u hU K 1000 mw_n1 z19 z20 hcq) (cwV 0 hts (tw_gV wM_good wq_77 wq_78 wq_79 wq_13 wq_30) rfl rfl rfl cd_X12_link ⟨(Nat.le_of_ble_eq_true rfl), (Nat.le_of_ble_eq_true rfl)⟩) (mw_preV hK hN hM (mo_n mw_n1) rfl) rfl rfl hl.1 rfl (lv_room (Nat.le_of_ble_eq_true rfl)) dmX13_simplify_155 ⟨(Nat.le_of_ble_eq_true rfl), (Nat.le_of_ble_eq_true rfl)⟩) (fun H locs hM => ?_)
          refine lv_aload_n hx hb dmX13_simplify_158 rfl (lv_at hl 0 rfl) ?_
          refine lv_aload_n hx hb dmX13_simplify_159 rfl (lv_at hl 0 rfl) ?_
          refine mg13_114 hx hb hT hown hK hM dmX13_simplify_160 ?_
          refine lv_iload hx hb dmX13_simplify_163 (lv_at hl 4 rfl) ?_
          obtain ⟨z21, hcq, hq⟩ := tw_cl0 hq
          refine tw_calv hM (va_runV (As := [.ref (u 1000), .int x4]) (rest := []) ⟨hx, hb, hml, hown, hts⟩ (km_X13_tryMoves l D q u hU K 1000 x4 mw_n1 z20 z21 hcq) (cwV 2 hts (tw_gV wM_good wq_243 wq_244 wq_245 wq_61 wq_242) rfl rfl rfl cd_X13_tryMoves ⟨(Nat.le_of_ble_eq_true rfl), (Nat.le_of_ble_eq_true rfl)⟩) (mw_preV hK hN hM mo_0 rfl) rfl rfl hl.1 rfl (lv_room (Nat.le_of_ble_eq_true rfl)) dmX13_simplify_165 ⟨(Nat.le_of_ble_eq_true rfl), (Nat.le_of_ble_eq_true rfl)⟩) (fun H locs hM => ?_)
          refine lv_iinc (v := (x4 + 2)) (lv' := [(4, .int (x4 + 2)), (0, .ref (u 0)), (1, .int x1), (2, .int x2), (3, .int x3)]) hx hb dmX13_simplify_168 hl (k := 4) rfl rfl (by decide) rfl (fun ls hl => ?_)
          refine lv_goto (tgt := 130) hx hb dmX13_simplify_171 (by decide) ?_
          exact ih_4 x1 x2 x3 (x4 + 2) z21 H locs ls hM (lv_sub hl [1, 2, 3, 4, 0] rfl) hq
      · intro x1 x2 x3 x4 z H locs ls  hM hl hq
        have hq : qm_X13_simplify_5 K (q_X13_simplify K k) x1 x2 x3 x4 z = some (r, z1) := hq
        unfold qm_X13_simplify_5 at hq
        refine lv_aload_n hx hb dmX13_simplify_180 rfl (lv_at hl 0 rfl) ?_
        refine mg13_482 hx hb hT hown hK hM hq dmX13_simplify_181 (fun v22 hq => ?_)
        refine lv_sipush (v := 300) hx hb dmX13_simplify_184 (by decide) ?_
        refine lv_icmp_le (tgt := 195) hx hb dmX13_simplify_187 (by decide) (fun hc => ?_) (fun hc => ?_)
        · have hq := tw_it hq hc
          refine lv_aload_n hx hb dmX13_simplify_195 rfl (lv_at hl 0 rfl) ?_
          refine lv_aload_n hx hb dmX13_simplify_196 rfl (lv_at hl 0 rfl) ?_
          refine mg13_146 hx hb hT hown hK hM dmX13_simplify_197 ?_
          refine lv_bipush (v := 32) hx hb dmX13_simplify_200 (by decide) ?_
          refine lv_iload_n hx hb dmX13_simplify_202 rfl (lv_at hl 2 rfl) ?_
          refine lv_imul hx hb dmX13_simplify_203 ?_
          obtain ⟨v24, z23, hcq, hq⟩ := tw_cl1 hq
          refine tw_cali hM (va_runV (As := [.ref (u 25), .int (32 * x2)]) (rest := []) ⟨hx, hb, hml, hown, hts⟩ (km_X13_keepRow l D q u hU K 25 (32 * x2) mr_25 z z23 v24 hcq) (cwV 2 hts (tw_gV wM_good wq_247 wq_248 wq_249 wq_61 wq_100) rfl rfl rfl cd_X13_keepRow ⟨(Nat.le_of_ble_eq_true rfl), (Nat.le_of_ble_eq_true rfl)⟩) (mw_preV hK hN hM mo_0 rfl) rfl rfl hl.1 rfl (lv_room (Nat.le_of_ble_eq_true rfl)) dmX13_simplify_204 ⟨(Nat.le_of_ble_eq_true rfl), (Nat.le_of_ble_eq_true rfl)⟩) (fun H locs hM => ?_)
          exact mw_iret hx hb hr hlocks hM hq hQQ dmX13_simplify_207
        · have hq := tw_if hq hc
          refine lv_bipush (v := (-2)) hx hb dmX13_simplify_190 (by decide) ?_
          refine lv_goto (tgt := 207) hx hb dmX13_simplify_192 (by decide) ?_
          exact mw_iret hx hb hr hlocks hM hq hQQ dmX13_simplify_207
  exact (key K).1 x1 0 0 0 z s.heap [] ls  hM (lv_sub hl [0, 1] rfl) hq
