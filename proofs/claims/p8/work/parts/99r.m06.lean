section MLEN
variable {p : Program} {l : Launch} {e : Env} {R : Room} {s : State} {m : MethodId} {args : Array Value} {below : List Frame} {meth : Method} {c : Code} {H : Heap} {locs : List Loc} {cells slots : Nat} {Q : State → Prop}
variable {cc : ByteArray} {pc : Nat} {ls : Array Slot} {rest : List Value} {D : va_G} {cl : List vw_C} {H0 : Heap} {X : ow_Tb} {q : ow_Q5} {u : Nat → Nat} {z : ow_MS} {O : Type} {out : O} {C5 : String} {h : Nat}
theorem tw_alen2 (hO : tw_ok X) (hx : p.tables.exec = Jvm.exec) (hb : c.code = cc) (hK : va_K D cl (tw_T q C5) s) (hM : tw_M D cl X q H0 u z H locs) (hh : tw_in X h 2) (hdg : decode cc pc = .ok (.arraylength, 1)) (kk : W p l e R s m args below meth c H locs cells slots Q (F0 m (pc + 1) ls (.int (Int32.ofNat (X.2 h).2.1) :: rest))) : W p l e R s m args below meth c H locs cells slots Q (F0 m pc ls (.ref (u h) :: rest)) := by
  obtain ⟨k, hk, _⟩ := tw_at hO hh.1
  have h1 := hk q u z
  rw [tw_c2 q u z hh] at h1
  exact va_alen hx hb hK hM.1 k 2 h1 rfl rfl hdg kk
end MLEN
theorem dmX13_makeJones_0 : decode cX13_makeJones 0 = .ok (.aload_n 1, 1) := dw_at cX13_makeJones_k0 (p := 0) rfl (by decide +kernel)
theorem dmX13_makeJones_1 : decode cX13_makeJones 1 = .ok (.getfield 44, 3) := dw_at cX13_makeJones_k0 (p := 1) rfl (by decide +kernel)
theorem dmX13_makeJones_4 : decode cX13_makeJones 4 = .ok (.iconst 2, 1) := dw_at cX13_makeJones_k0 (p := 4) rfl (by decide +kernel)
theorem dmX13_makeJones_5 : decode cX13_makeJones 5 = .ok (.idiv, 1) := dw_at cX13_makeJones_k0 (p := 5) rfl (by decide +kernel)
theorem dmX13_makeJones_6 : decode cX13_makeJones 6 = .ok (.istore_n 2, 1) := dw_at cX13_makeJones_k0 (p := 6) rfl (by decide +kernel)
theorem dmX13_makeJones_7 : decode cX13_makeJones 7 = .ok (.aload_n 0, 1) := dw_at cX13_makeJones_k0 (p := 7) rfl (by decide +kernel)
theorem dmX13_makeJones_8 : decode cX13_makeJones 8 = .ok (.aload_n 1, 1) := dw_at cX13_makeJones_k0 (p := 8) rfl (by decide +kernel)
theorem dmX13_makeJones_9 : decode cX13_makeJones 9 = .ok (.invokevirtual 438, 3) := dw_at cX13_makeJones_k0 (p := 9) rfl (by decide +kernel)
theorem dmX13_makeJones_12 : decode cX13_makeJones 12 = .ok (.istore_n 3, 1) := dw_at cX13_makeJones_k0 (p := 12) rfl (by decide +kernel)
theorem dmX13_makeJones_13 : decode cX13_makeJones 13 = .ok (.iconst 0, 1) := dw_at cX13_makeJones_k0 (p := 13) rfl (by decide +kernel)
theorem dmX13_makeJones_14 : decode cX13_makeJones 14 = .ok (.istore 4, 2) := dw_at cX13_makeJones_k0 (p := 14) rfl (by decide +kernel)
theorem dmX13_makeJones_16 : decode cX13_makeJones 16 = .ok (.iload 4, 2) := dw_at cX13_makeJones_k0 (p := 16) rfl (by decide +kernel)
theorem dmX13_makeJones_18 : decode cX13_makeJones 18 = .ok (.aload_n 0, 1) := dw_at cX13_makeJones_k0 (p := 18) rfl (by decide +kernel)
theorem dmX13_makeJones_19 : decode cX13_makeJones 19 = .ok (.getfield 211, 3) := dw_at cX13_makeJones_k0 (p := 19) rfl (by decide +kernel)
theorem dmX13_makeJones_22 : decode cX13_makeJones 22 = .ok (.arraylength, 1) := dw_at cX13_makeJones_k0 (p := 22) rfl (by decide +kernel)
theorem dmX13_makeJones_23 : decode cX13_makeJones 23 = .ok (.if_icmp .ge 17, 3) := dw_at cX13_makeJones_k0 (p := 23) rfl (by decide +kernel)
theorem dmX13_makeJones_26 : decode cX13_makeJones 26 = .ok (.aload_n 0, 1) := dw_at cX13_makeJones_k1 (p := 0) rfl (by decide +kernel)
theorem dmX13_makeJones_27 : decode cX13_makeJones 27 = .ok (.getfield 211, 3) := dw_at cX13_makeJones_k1 (p := 1) rfl (by decide +kernel)
theorem dmX13_makeJones_30 : decode cX13_makeJones 30 = .ok (.iload 4, 2) := dw_at cX13_makeJones_k1 (p := 4) rfl (by decide +kernel)
theorem dmX13_makeJones_32 : decode cX13_makeJones 32 = .ok (.lconst 0, 1) := dw_at cX13_makeJones_k1 (p := 6) rfl (by decide +kernel)
theorem dmX13_makeJones_33 : decode cX13_makeJones 33 = .ok (.lastore, 1) := dw_at cX13_makeJones_k1 (p := 7) rfl (by decide +kernel)
theorem dmX13_makeJones_34 : decode cX13_makeJones 34 = .ok (.iinc 4 1, 3) := dw_at cX13_makeJones_k1 (p := 8) rfl (by decide +kernel)
theorem dmX13_makeJones_37 : decode cX13_makeJones 37 = .ok (.goto (-21), 3) := dw_at cX13_makeJones_k1 (p := 11) rfl (by decide +kernel)
theorem dmX13_makeJones_40 : decode cX13_makeJones 40 = .ok (.iconst 0, 1) := dw_at cX13_makeJones_k1 (p := 14) rfl (by decide +kernel)
theorem dmX13_makeJones_41 : decode cX13_makeJones 41 = .ok (.istore 4, 2) := dw_at cX13_makeJones_k1 (p := 15) rfl (by decide +kernel)
theorem dmX13_makeJones_43 : decode cX13_makeJones 43 = .ok (.iload 4, 2) := dw_at cX13_makeJones_k1 (p := 17) rfl (by decide +kernel)
theorem dmX13_makeJones_45 : decode cX13_makeJones 45 = .ok (.iconst 1, 1) := dw_at cX13_makeJones_k1 (p := 19) rfl (by decide +kernel)
theorem dmX13_makeJones_46 : decode cX13_makeJones 46 = .ok (.iload_n 2, 1) := dw_at cX13_makeJones_k1 (p := 20) rfl (by decide +kernel)
theorem dmX13_makeJones_47 : decode cX13_makeJones 47 = .ok (.ishl, 1) := dw_at cX13_makeJones_k1 (p := 21) rfl (by decide +kernel)
theorem dmX13_makeJones_48 : decode cX13_makeJones 48 = .ok (.if_icmp .ge 43, 3) := dw_at cX13_makeJones_k1 (p := 22) rfl (by decide +kernel)
theorem dmX13_makeJones_51 : decode cX13_makeJones 51 = .ok (.aload_n 0, 1) := dw_at cX13_makeJones_k2 (p := 0) rfl (by decide +kernel)
theorem dmX13_makeJones_52 : decode cX13_makeJones 52 = .ok (.aload_n 1, 1) := dw_at cX13_makeJones_k2 (p := 1) rfl (by decide +kernel)
theorem dmX13_makeJones_53 : decode cX13_makeJones 53 = .ok (.iload 4, 2) := dw_at cX13_makeJones_k2 (p := 2) rfl (by decide +kernel)
theorem dmX13_makeJones_55 : decode cX13_makeJones 55 = .ok (.invokevirtual 587, 3) := dw_at cX13_makeJones_k2 (p := 4) rfl (by decide +kernel)
theorem dmX13_makeJones_58 : decode cX13_makeJones 58 = .ok (.aload_n 0, 1) := dw_at cX13_makeJones_k2 (p := 7) rfl (by decide +kernel)
theorem dmX13_makeJones_59 : decode cX13_makeJones 59 = .ok (.getfield 211, 3) := dw_at cX13_makeJones_k2 (p := 8) rfl (by decide +kernel)
theorem dmX13_makeJones_62 : decode cX13_makeJones 62 = .ok (.bipush 24, 2) := dw_at cX13_makeJones_k2 (p := 11) rfl (by decide +kernel)
theorem dmX13_makeJones_64 : decode cX13_makeJones 64 = .ok (.iload_n 2, 1) := dw_at cX13_makeJones_k2 (p := 13) rfl (by decide +kernel)
theorem dmX13_makeJones_65 : decode cX13_makeJones 65 = .ok (.iload 4, 2) := dw_at cX13_makeJones_k2 (p := 14) rfl (by decide +kernel)
theorem dmX13_makeJones_67 : decode cX13_makeJones 67 = .ok (.invokestatic 590, 3) := dw_at cX13_makeJones_k2 (p := 16) rfl (by decide +kernel)
theorem dmX13_makeJones_70 : decode cX13_makeJones 70 = .ok (.isub, 1) := dw_at cX13_makeJones_k2 (p := 19) rfl (by decide +kernel)
theorem dmX13_makeJones_71 : decode cX13_makeJones 71 = .ok (.imul, 1) := dw_at cX13_makeJones_k2 (p := 20) rfl (by decide +kernel)
theorem dmX13_makeJones_72 : decode cX13_makeJones 72 = .ok (.aload_n 0, 1) := dw_at cX13_makeJones_k2 (p := 21) rfl (by decide +kernel)
theorem dmX13_makeJones_73 : decode cX13_makeJones 73 = .ok (.aload_n 1, 1) := dw_at cX13_makeJones_k2 (p := 22) rfl (by decide +kernel)
theorem dmX13_makeJones_74 : decode cX13_makeJones 74 = .ok (.invokevirtual 595, 3) := dw_at cX13_makeJones_k2 (p := 23) rfl (by decide +kernel)
theorem dmX13_makeJones_77 : decode cX13_makeJones 77 = .ok (.iadd, 1) := dw_at cX13_makeJones_k3 (p := 0) rfl (by decide +kernel)
theorem dmX13_makeJones_78 : decode cX13_makeJones 78 = .ok (.iload_n 3, 1) := dw_at cX13_makeJones_k3 (p := 1) rfl (by decide +kernel)
theorem dmX13_makeJones_79 : decode cX13_makeJones 79 = .ok (.iadd, 1) := dw_at cX13_makeJones_k3 (p := 2) rfl (by decide +kernel)
theorem dmX13_makeJones_80 : decode cX13_makeJones 80 = .ok (.dup2, 1) := dw_at cX13_makeJones_k3 (p := 3) rfl (by decide +kernel)
theorem dmX13_makeJones_81 : decode cX13_makeJones 81 = .ok (.laload, 1) := dw_at cX13_makeJones_k3 (p := 4) rfl (by decide +kernel)
theorem dmX13_makeJones_82 : decode cX13_makeJones 82 = .ok (.lconst 1, 1) := dw_at cX13_makeJones_k3 (p := 5) rfl (by decide +kernel)
theorem dmX13_makeJones_83 : decode cX13_makeJones 83 = .ok (.ladd, 1) := dw_at cX13_makeJones_k3 (p := 6) rfl (by decide +kernel)
theorem dmX13_makeJones_84 : decode cX13_makeJones 84 = .ok (.lastore, 1) := dw_at cX13_makeJones_k3 (p := 7) rfl (by decide +kernel)
theorem dmX13_makeJones_85 : decode cX13_makeJones 85 = .ok (.iinc 4 1, 3) := dw_at cX13_makeJones_k3 (p := 8) rfl (by decide +kernel)
theorem dmX13_makeJones_88 : decode cX13_makeJones 88 = .ok (.goto (-45), 3) := dw_at cX13_makeJones_k3 (p := 11) rfl (by decide +kernel)
theorem dmX13_makeJones_91 : decode cX13_makeJones 91 = .ok (.iconst 0, 1) := dw_at cX13_makeJones_k3 (p := 14) rfl (by decide +kernel)
theorem dmX13_makeJones_92 : decode cX13_makeJones 92 = .ok (.istore 4, 2) := dw_at cX13_makeJones_k3 (p := 15) rfl (by decide +kernel)
theorem dmX13_makeJones_94 : decode cX13_makeJones 94 = .ok (.iload 4, 2) := dw_at cX13_makeJones_k3 (p := 17) rfl (by decide +kernel)
theorem dmX13_makeJones_96 : decode cX13_makeJones 96 = .ok (.sipush 200, 3) := dw_at cX13_makeJones_k3 (p := 19) rfl (by decide +kernel)
theorem dmX13_makeJones_99 : decode cX13_makeJones 99 = .ok (.if_icmp .gt 17, 3) := dw_at cX13_makeJones_k3 (p := 22) rfl (by decide +kernel)
theorem dmX13_makeJones_102 : decode cX13_makeJones 102 = .ok (.aload_n 0, 1) := dw_at cX13_makeJones_k4 (p := 0) rfl (by decide +kernel)
theorem dmX13_makeJones_103 : decode cX13_makeJones 103 = .ok (.getfield 202, 3) := dw_at cX13_makeJones_k4 (p := 1) rfl (by decide +kernel)
theorem dmX13_makeJones_106 : decode cX13_makeJones 106 = .ok (.iload 4, 2) := dw_at cX13_makeJones_k4 (p := 4) rfl (by decide +kernel)
theorem dmX13_makeJones_108 : decode cX13_makeJones 108 = .ok (.lconst 0, 1) := dw_at cX13_makeJones_k4 (p := 6) rfl (by decide +kernel)
theorem dmX13_makeJones_109 : decode cX13_makeJones 109 = .ok (.lastore, 1) := dw_at cX13_makeJones_k4 (p := 7) rfl (by decide +kernel)
theorem dmX13_makeJones_110 : decode cX13_makeJones 110 = .ok (.iinc 4 1, 3) := dw_at cX13_makeJones_k4 (p := 8) rfl (by decide +kernel)
theorem dmX13_makeJones_113 : decode cX13_makeJones 113 = .ok (.goto (-19), 3) := dw_at cX13_makeJones_k4 (p := 11) rfl (by decide +kernel)
theorem dmX13_makeJones_116 : decode cX13_makeJones 116 = .ok (.aload_n 1, 1) := dw_at cX13_makeJones_k4 (p := 14) rfl (by decide +kernel)
theorem dmX13_makeJones_117 : decode cX13_makeJones 117 = .ok (.invokestatic 442, 3) := dw_at cX13_makeJones_k4 (p := 15) rfl (by decide +kernel)
theorem dmX13_makeJones_120 : decode cX13_makeJones 120 = .ok (.istore 4, 2) := dw_at cX13_makeJones_k4 (p := 18) rfl (by decide +kernel)
theorem dmX13_makeJones_122 : decode cX13_makeJones 122 = .ok (.iconst 1, 1) := dw_at cX13_makeJones_k4 (p := 20) rfl (by decide +kernel)
theorem dmX13_makeJones_123 : decode cX13_makeJones 123 = .ok (.istore 5, 2) := dw_at cX13_makeJones_k4 (p := 21) rfl (by decide +kernel)
theorem dmX13_makeJones_125 : decode cX13_makeJones 125 = .ok (.iload 5, 2) := dw_at cX13_makeJones_k4 (p := 23) rfl (by decide +kernel)
theorem dmX13_makeJones_127 : decode cX13_makeJones 127 = .ok (.bipush 24, 2) := dw_at cX13_makeJones_k5 (p := 0) rfl (by decide +kernel)
theorem dmX13_makeJones_129 : decode cX13_makeJones 129 = .ok (.if_icmp .ge 168, 3) := dw_at cX13_makeJones_k5 (p := 2) rfl (by decide +kernel)
theorem dmX13_makeJones_132 : decode cX13_makeJones 132 = .ok (.iload 5, 2) := dw_at cX13_makeJones_k5 (p := 5) rfl (by decide +kernel)
theorem dmX13_makeJones_134 : decode cX13_makeJones 134 = .ok (.iconst 1, 1) := dw_at cX13_makeJones_k5 (p := 7) rfl (by decide +kernel)
theorem dmX13_makeJones_135 : decode cX13_makeJones 135 = .ok (.isub, 1) := dw_at cX13_makeJones_k5 (p := 8) rfl (by decide +kernel)
theorem dmX13_makeJones_136 : decode cX13_makeJones 136 = .ok (.iconst 1, 1) := dw_at cX13_makeJones_k5 (p := 9) rfl (by decide +kernel)
theorem dmX13_makeJones_137 : decode cX13_makeJones 137 = .ok (.iand, 1) := dw_at cX13_makeJones_k5 (p := 10) rfl (by decide +kernel)
theorem dmX13_makeJones_138 : decode cX13_makeJones 138 = .ok (.ifCond .ne 7, 3) := dw_at cX13_makeJones_k5 (p := 11) rfl (by decide +kernel)
theorem dmX13_makeJones_141 : decode cX13_makeJones 141 = .ok (.lconst 1, 1) := dw_at cX13_makeJones_k5 (p := 14) rfl (by decide +kernel)
theorem dmX13_makeJones_142 : decode cX13_makeJones 142 = .ok (.goto 6, 3) := dw_at cX13_makeJones_k5 (p := 15) rfl (by decide +kernel)
theorem dmX13_makeJones_145 : decode cX13_makeJones 145 = .ok (.ldc2_w 598, 3) := dw_at cX13_makeJones_k5 (p := 18) rfl (by decide +kernel)
theorem dmX13_makeJones_148 : decode cX13_makeJones 148 = .ok (.lstore 6, 2) := dw_at cX13_makeJones_k5 (p := 21) rfl (by decide +kernel)
theorem dmX13_makeJones_150 : decode cX13_makeJones 150 = .ok (.lload 6, 2) := dw_at cX13_makeJones_k5 (p := 23) rfl (by decide +kernel)
theorem dmX13_makeJones_152 : decode cX13_makeJones 152 = .ok (.lstore 8, 2) := dw_at cX13_makeJones_k6 (p := 0) rfl (by decide +kernel)
theorem dmX13_makeJones_154 : decode cX13_makeJones 154 = .ok (.iconst 0, 1) := dw_at cX13_makeJones_k6 (p := 2) rfl (by decide +kernel)
theorem dmX13_makeJones_155 : decode cX13_makeJones 155 = .ok (.istore 10, 2) := dw_at cX13_makeJones_k6 (p := 3) rfl (by decide +kernel)
theorem dmX13_makeJones_157 : decode cX13_makeJones 157 = .ok (.iload 10, 2) := dw_at cX13_makeJones_k6 (p := 5) rfl (by decide +kernel)
theorem dmX13_makeJones_159 : decode cX13_makeJones 159 = .ok (.iload 5, 2) := dw_at cX13_makeJones_k6 (p := 7) rfl (by decide +kernel)
theorem dmX13_makeJones_161 : decode cX13_makeJones 161 = .ok (.if_icmp .ge 130, 3) := dw_at cX13_makeJones_k6 (p := 9) rfl (by decide +kernel)
theorem dmX13_makeJones_164 : decode cX13_makeJones 164 = .ok (.iconst 2, 1) := dw_at cX13_makeJones_k6 (p := 12) rfl (by decide +kernel)
theorem dmX13_makeJones_165 : decode cX13_makeJones 165 = .ok (.iload 5, 2) := dw_at cX13_makeJones_k6 (p := 13) rfl (by decide +kernel)
theorem dmX13_makeJones_167 : decode cX13_makeJones 167 = .ok (.iconst 1, 1) := dw_at cX13_makeJones_k6 (p := 15) rfl (by decide +kernel)
theorem dmX13_makeJones_168 : decode cX13_makeJones 168 = .ok (.isub, 1) := dw_at cX13_makeJones_k6 (p := 16) rfl (by decide +kernel)
theorem dmX13_makeJones_169 : decode cX13_makeJones 169 = .ok (.imul, 1) := dw_at cX13_makeJones_k6 (p := 17) rfl (by decide +kernel)
theorem dmX13_makeJones_170 : decode cX13_makeJones 170 = .ok (.iconst 4, 1) := dw_at cX13_makeJones_k6 (p := 18) rfl (by decide +kernel)
theorem dmX13_makeJones_171 : decode cX13_makeJones 171 = .ok (.iload 10, 2) := dw_at cX13_makeJones_k6 (p := 19) rfl (by decide +kernel)
theorem dmX13_makeJones_173 : decode cX13_makeJones 173 = .ok (.imul, 1) := dw_at cX13_makeJones_k6 (p := 21) rfl (by decide +kernel)
theorem dmX13_makeJones_174 : decode cX13_makeJones 174 = .ok (.isub, 1) := dw_at cX13_makeJones_k6 (p := 22) rfl (by decide +kernel)
theorem dmX13_makeJones_175 : decode cX13_makeJones 175 = .ok (.istore 11, 2) := dw_at cX13_makeJones_k6 (p := 23) rfl (by decide +kernel)
theorem dmX13_makeJones_177 : decode cX13_makeJones 177 = .ok (.iconst 0, 1) := dw_at cX13_makeJones_k7 (p := 0) rfl (by decide +kernel)
theorem dmX13_makeJones_178 : decode cX13_makeJones 178 = .ok (.istore 12, 2) := dw_at cX13_makeJones_k7 (p := 1) rfl (by decide +kernel)
theorem dmX13_makeJones_180 : decode cX13_makeJones 180 = .ok (.iload 12, 2) := dw_at cX13_makeJones_k7 (p := 3) rfl (by decide +kernel)
theorem dmX13_makeJones_182 : decode cX13_makeJones 182 = .ok (.iload_n 2, 1) := dw_at cX13_makeJones_k7 (p := 5) rfl (by decide +kernel)
theorem dmX13_makeJones_183 : decode cX13_makeJones 183 = .ok (.if_icmp .gt 83, 3) := dw_at cX13_makeJones_k7 (p := 6) rfl (by decide +kernel)
theorem dmX13_makeJones_186 : decode cX13_makeJones 186 = .ok (.iload 11, 2) := dw_at cX13_makeJones_k7 (p := 9) rfl (by decide +kernel)
theorem dmX13_makeJones_188 : decode cX13_makeJones 188 = .ok (.iload 12, 2) := dw_at cX13_makeJones_k7 (p := 11) rfl (by decide +kernel)
theorem dmX13_makeJones_190 : decode cX13_makeJones 190 = .ok (.iadd, 1) := dw_at cX13_makeJones_k7 (p := 13) rfl (by decide +kernel)
theorem dmX13_makeJones_191 : decode cX13_makeJones 191 = .ok (.iload_n 2, 1) := dw_at cX13_makeJones_k7 (p := 14) rfl (by decide +kernel)
theorem dmX13_makeJones_192 : decode cX13_makeJones 192 = .ok (.iload 12, 2) := dw_at cX13_makeJones_k7 (p := 15) rfl (by decide +kernel)
theorem dmX13_makeJones_194 : decode cX13_makeJones 194 = .ok (.isub, 1) := dw_at cX13_makeJones_k7 (p := 17) rfl (by decide +kernel)
theorem dmX13_makeJones_195 : decode cX13_makeJones 195 = .ok (.isub, 1) := dw_at cX13_makeJones_k7 (p := 18) rfl (by decide +kernel)
theorem dmX13_makeJones_196 : decode cX13_makeJones 196 = .ok (.iconst 3, 1) := dw_at cX13_makeJones_k7 (p := 19) rfl (by decide +kernel)
theorem dmX13_makeJones_197 : decode cX13_makeJones 197 = .ok (.iload 4, 2) := dw_at cX13_makeJones_k7 (p := 20) rfl (by decide +kernel)
theorem dmX13_makeJones_199 : decode cX13_makeJones 199 = .ok (.imul, 1) := dw_at cX13_makeJones_k7 (p := 22) rfl (by decide +kernel)
theorem dmX13_makeJones_200 : decode cX13_makeJones 200 = .ok (.isub, 1) := dw_at cX13_makeJones_k7 (p := 23) rfl (by decide +kernel)
theorem dmX13_makeJones_201 : decode cX13_makeJones 201 = .ok (.istore 13, 2) := dw_at cX13_makeJones_k8 (p := 0) rfl (by decide +kernel)
theorem dmX13_makeJones_203 : decode cX13_makeJones 203 = .ok (.aload_n 0, 1) := dw_at cX13_makeJones_k8 (p := 2) rfl (by decide +kernel)
theorem dmX13_makeJones_204 : decode cX13_makeJones 204 = .ok (.getfield 211, 3) := dw_at cX13_makeJones_k8 (p := 3) rfl (by decide +kernel)
theorem dmX13_makeJones_207 : decode cX13_makeJones 207 = .ok (.bipush 24, 2) := dw_at cX13_makeJones_k8 (p := 6) rfl (by decide +kernel)
theorem dmX13_makeJones_209 : decode cX13_makeJones 209 = .ok (.iload 12, 2) := dw_at cX13_makeJones_k8 (p := 8) rfl (by decide +kernel)
theorem dmX13_makeJones_211 : decode cX13_makeJones 211 = .ok (.imul, 1) := dw_at cX13_makeJones_k8 (p := 10) rfl (by decide +kernel)
theorem dmX13_makeJones_212 : decode cX13_makeJones 212 = .ok (.iload 5, 2) := dw_at cX13_makeJones_k8 (p := 11) rfl (by decide +kernel)
theorem dmX13_makeJones_214 : decode cX13_makeJones 214 = .ok (.iadd, 1) := dw_at cX13_makeJones_k8 (p := 13) rfl (by decide +kernel)
theorem dmX13_makeJones_215 : decode cX13_makeJones 215 = .ok (.laload, 1) := dw_at cX13_makeJones_k8 (p := 14) rfl (by decide +kernel)
theorem dmX13_makeJones_216 : decode cX13_makeJones 216 = .ok (.lstore 14, 2) := dw_at cX13_makeJones_k8 (p := 15) rfl (by decide +kernel)
theorem dmX13_makeJones_218 : decode cX13_makeJones 218 = .ok (.lload 14, 2) := dw_at cX13_makeJones_k8 (p := 17) rfl (by decide +kernel)
theorem dmX13_makeJones_220 : decode cX13_makeJones 220 = .ok (.lconst 0, 1) := dw_at cX13_makeJones_k8 (p := 19) rfl (by decide +kernel)
theorem dmX13_makeJones_221 : decode cX13_makeJones 221 = .ok (.lcmp, 1) := dw_at cX13_makeJones_k8 (p := 20) rfl (by decide +kernel)
theorem dmX13_makeJones_222 : decode cX13_makeJones 222 = .ok (.ifCond .eq 38, 3) := dw_at cX13_makeJones_k8 (p := 21) rfl (by decide +kernel)
theorem dmX13_makeJones_225 : decode cX13_makeJones 225 = .ok (.aload_n 0, 1) := dw_at cX13_makeJones_k9 (p := 0) rfl (by decide +kernel)
theorem dmX13_makeJones_226 : decode cX13_makeJones 226 = .ok (.getfield 202, 3) := dw_at cX13_makeJones_k9 (p := 1) rfl (by decide +kernel)
theorem dmX13_makeJones_229 : decode cX13_makeJones 229 = .ok (.iload 13, 2) := dw_at cX13_makeJones_k9 (p := 4) rfl (by decide +kernel)
theorem dmX13_makeJones_231 : decode cX13_makeJones 231 = .ok (.bipush 100, 2) := dw_at cX13_makeJones_k9 (p := 6) rfl (by decide +kernel)
theorem dmX13_makeJones_233 : decode cX13_makeJones 233 = .ok (.iadd, 1) := dw_at cX13_makeJones_k9 (p := 8) rfl (by decide +kernel)
theorem dmX13_makeJones_234 : decode cX13_makeJones 234 = .ok (.dup2, 1) := dw_at cX13_makeJones_k9 (p := 9) rfl (by decide +kernel)
theorem dmX13_makeJones_235 : decode cX13_makeJones 235 = .ok (.laload, 1) := dw_at cX13_makeJones_k9 (p := 10) rfl (by decide +kernel)
theorem dmX13_makeJones_236 : decode cX13_makeJones 236 = .ok (.iload 4, 2) := dw_at cX13_makeJones_k9 (p := 11) rfl (by decide +kernel)
theorem dmX13_makeJones_238 : decode cX13_makeJones 238 = .ok (.iconst 1, 1) := dw_at cX13_makeJones_k9 (p := 13) rfl (by decide +kernel)
theorem dmX13_makeJones_239 : decode cX13_makeJones 239 = .ok (.iand, 1) := dw_at cX13_makeJones_k9 (p := 14) rfl (by decide +kernel)
theorem dmX13_makeJones_240 : decode cX13_makeJones 240 = .ok (.ifCond .ne 11, 3) := dw_at cX13_makeJones_k9 (p := 15) rfl (by decide +kernel)
theorem dmX13_makeJones_243 : decode cX13_makeJones 243 = .ok (.lload 14, 2) := dw_at cX13_makeJones_k9 (p := 18) rfl (by decide +kernel)
theorem dmX13_makeJones_245 : decode cX13_makeJones 245 = .ok (.lload 8, 2) := dw_at cX13_makeJones_k9 (p := 20) rfl (by decide +kernel)
theorem dmX13_makeJones_247 : decode cX13_makeJones 247 = .ok (.lmul, 1) := dw_at cX13_makeJones_k9 (p := 22) rfl (by decide +kernel)
theorem dmX13_makeJones_248 : decode cX13_makeJones 248 = .ok (.goto 10, 3) := dw_at cX13_makeJones_k9 (p := 23) rfl (by decide +kernel)
theorem dmX13_makeJones_251 : decode cX13_makeJones 251 = .ok (.lconst 0, 1) := dw_at cX13_makeJones_k10 (p := 0) rfl (by decide +kernel)
theorem dmX13_makeJones_252 : decode cX13_makeJones 252 = .ok (.lload 14, 2) := dw_at cX13_makeJones_k10 (p := 1) rfl (by decide +kernel)
theorem dmX13_makeJones_254 : decode cX13_makeJones 254 = .ok (.lload 8, 2) := dw_at cX13_makeJones_k10 (p := 3) rfl (by decide +kernel)
theorem dmX13_makeJones_256 : decode cX13_makeJones 256 = .ok (.lmul, 1) := dw_at cX13_makeJones_k10 (p := 5) rfl (by decide +kernel)
theorem dmX13_makeJones_257 : decode cX13_makeJones 257 = .ok (.lsub, 1) := dw_at cX13_makeJones_k10 (p := 6) rfl (by decide +kernel)
theorem dmX13_makeJones_258 : decode cX13_makeJones 258 = .ok (.ladd, 1) := dw_at cX13_makeJones_k10 (p := 7) rfl (by decide +kernel)
theorem dmX13_makeJones_259 : decode cX13_makeJones 259 = .ok (.lastore, 1) := dw_at cX13_makeJones_k10 (p := 8) rfl (by decide +kernel)
theorem dmX13_makeJones_260 : decode cX13_makeJones 260 = .ok (.iinc 12 1, 3) := dw_at cX13_makeJones_k10 (p := 9) rfl (by decide +kernel)
theorem dmX13_makeJones_263 : decode cX13_makeJones 263 = .ok (.goto (-83), 3) := dw_at cX13_makeJones_k10 (p := 12) rfl (by decide +kernel)
theorem dmX13_makeJones_266 : decode cX13_makeJones 266 = .ok (.lload 8, 2) := dw_at cX13_makeJones_k10 (p := 15) rfl (by decide +kernel)
theorem dmX13_makeJones_268 : decode cX13_makeJones 268 = .ok (.iload 5, 2) := dw_at cX13_makeJones_k10 (p := 17) rfl (by decide +kernel)
theorem dmX13_makeJones_270 : decode cX13_makeJones 270 = .ok (.iconst 1, 1) := dw_at cX13_makeJones_k10 (p := 19) rfl (by decide +kernel)
theorem dmX13_makeJones_271 : decode cX13_makeJones 271 = .ok (.isub, 1) := dw_at cX13_makeJones_k10 (p := 20) rfl (by decide +kernel)
theorem dmX13_makeJones_272 : decode cX13_makeJones 272 = .ok (.iload 10, 2) := dw_at cX13_makeJones_k10 (p := 21) rfl (by decide +kernel)
theorem dmX13_makeJones_274 : decode cX13_makeJones 274 = .ok (.isub, 1) := dw_at cX13_makeJones_k10 (p := 23) rfl (by decide +kernel)
theorem dmX13_makeJones_275 : decode cX13_makeJones 275 = .ok (.i2l, 1) := dw_at cX13_makeJones_k11 (p := 0) rfl (by decide +kernel)
theorem dmX13_makeJones_276 : decode cX13_makeJones 276 = .ok (.lmul, 1) := dw_at cX13_makeJones_k11 (p := 1) rfl (by decide +kernel)
theorem dmX13_makeJones_277 : decode cX13_makeJones 277 = .ok (.iload 10, 2) := dw_at cX13_makeJones_k11 (p := 2) rfl (by decide +kernel)
theorem dmX13_makeJones_279 : decode cX13_makeJones 279 = .ok (.iconst 1, 1) := dw_at cX13_makeJones_k11 (p := 4) rfl (by decide +kernel)
theorem dmX13_makeJones_280 : decode cX13_makeJones 280 = .ok (.iadd, 1) := dw_at cX13_makeJones_k11 (p := 5) rfl (by decide +kernel)
theorem dmX13_makeJones_281 : decode cX13_makeJones 281 = .ok (.i2l, 1) := dw_at cX13_makeJones_k11 (p := 6) rfl (by decide +kernel)
theorem dmX13_makeJones_282 : decode cX13_makeJones 282 = .ok (.ldiv, 1) := dw_at cX13_makeJones_k11 (p := 7) rfl (by decide +kernel)
theorem dmX13_makeJones_283 : decode cX13_makeJones 283 = .ok (.lstore 8, 2) := dw_at cX13_makeJones_k11 (p := 8) rfl (by decide +kernel)
theorem dmX13_makeJones_285 : decode cX13_makeJones 285 = .ok (.iinc 10 1, 3) := dw_at cX13_makeJones_k11 (p := 10) rfl (by decide +kernel)
theorem dmX13_makeJones_288 : decode cX13_makeJones 288 = .ok (.goto (-131), 3) := dw_at cX13_makeJones_k11 (p := 13) rfl (by decide +kernel)
theorem dmX13_makeJones_291 : decode cX13_makeJones 291 = .ok (.iinc 5 1, 3) := dw_at cX13_makeJones_k11 (p := 16) rfl (by decide +kernel)
theorem dmX13_makeJones_294 : decode cX13_makeJones 294 = .ok (.goto (-169), 3) := dw_at cX13_makeJones_k11 (p := 19) rfl (by decide +kernel)
theorem dmX13_makeJones_297 : decode cX13_makeJones 297 = .ok (.return_, 1) := dw_at cX13_makeJones_k11 (p := 22) rfl (by decide +kernel)
def qm_X13_makeJones_0 (K : Nat) (go : Nat → Int32 → Int32 → Int32 → Int32 → Int32 → Int32 → Int32 → Int32 → Int64 → Int64 → Int64 → Nat → Int32 → Int64 → Int64 → ow_MS → Option ow_MS) (x2 : Int32) (x3 : Int32) (x4 : Int32) (x5 : Int32) (x10 : Int32) (x11 : Int32) (x12 : Int32) (x13 : Int32) (w6 : Int64) (w8 : Int64) (w14 : Int64) (r1 : Nat) (t2 : Int32) (y0 : Int64) (y1 : Int64) (z : ow_MS) : Option ow_MS :=
 rdF z (r1 + 1) fun v1 => nzI 2 (cs1 (qe_X13_circlesOf K r1 z) fun v3 z2 => go 1 (v1 / 2) v3 0 0 0 0 0 0 0 0 0 r1 0 0 0 z2)
def qm_X13_makeJones_1 (K : Nat) (go : Nat → Int32 → Int32 → Int32 → Int32 → Int32 → Int32 → Int32 → Int32 → Int64 → Int64 → Int64 → Nat → Int32 → Int64 → Int64 → ow_MS → Option ow_MS) (x2 : Int32) (x3 : Int32) (x4 : Int32) (x5 : Int32) (x10 : Int32) (x11 : Int32) (x12 : Int32) (x13 : Int32) (w6 : Int64) (w8 : Int64) (w14 : Int64) (r1 : Nat) (t2 : Int32) (y0 : Int64) (y1 : Int64) (z : ow_MS) : Option ow_MS :=
 (if (Int32.ofNat (mX.2 51).2.1) ≤ x4 then go 2 x2 x3 0 0 0 0 0 0 0 0 0 r1 0 0 0 z
 else wrJ mX z 51 x4 0 fun z4 => go 1 x2 x3 (x4 + 1) 0 0 0 0 0 0 0 0 r1 0 0 0 z4)
def qm_X13_makeJones_2 (K : Nat) (go : Nat → Int32 → Int32 → Int32 → Int32 → Int32 → Int32 → Int32 → Int32 → Int64 → Int64 → Int64 → Nat → Int32 → Int64 → Int64 → ow_MS → Option ow_MS) (x2 : Int32) (x3 : Int32) (x4 : Int32) (x5 : Int32) (x10 : Int32) (x11 : Int32) (x12 : Int32) (x13 : Int32) (w6 : Int64) (w8 : Int64) (w14 : Int64) (r1 : Nat) (t2 : Int32) (y0 : Int64) (y1 : Int64) (z : ow_MS) : Option ow_MS :=
 (if ((1 : Int32) <<< ((x2 : Int32) &&& 31)) ≤ x4 then go 3 x2 x3 0 0 0 0 0 0 0 0 0 r1 0 0 0 z
 else cs0 (qe_X13_loops K r1 x4 z) fun z5 => cs1 (qe_X13_countLoops K r1 z5) fun v8 z7 => rdJ mX z7 51 (((24 * (x2 - (ow_bc x4))) + v8) + x3) fun v9 => wrJ mX z7 51 (((24 * (x2 - (ow_bc x4))) + v8) + x3) (v9 + 1) fun z10 => go 2 x2 x3 (x4 + 1) 0 0 0 0 0 0 0 0 r1 0 0 0 z10)
def qm_X13_makeJones_3 (K : Nat) (go : Nat → Int32 → Int32 → Int32 → Int32 → Int32 → Int32 → Int32 → Int32 → Int64 → Int64 → Int64 → Nat → Int32 → Int64 → Int64 → ow_MS → Option ow_MS) (x2 : Int32) (x3 : Int32) (x4 : Int32) (x5 : Int32) (x10 : Int32) (x11 : Int32) (x12 : Int32) (x13 : Int32) (w6 : Int64) (w8 : Int64) (w14 : Int64) (r1 : Nat) (t2 : Int32) (y0 : Int64) (y1 : Int64) (z : ow_MS) : Option ow_MS :=
 (if 200 < x4 then cs1 (qe_X13_writheOf K r1 z) fun v12 z11 => go 4 x2 x3 v12 1 0 0 0 0 0 0 0 r1 0 0 0 z11
 else wrJ mX z 48 x4 0 fun z13 => go 3 x2 x3 (x4 + 1) 0 0 0 0 0 0 0 0 r1 0 0 0 z13)
def qm_X13_makeJones_4 (K : Nat) (go : Nat → Int32 → Int32 → Int32 → Int32 → Int32 → Int32 → Int32 → Int32 → Int64 → Int64 → Int64 → Nat → Int32 → Int64 → Int64 → ow_MS → Option ow_MS) (x2 : Int32) (x3 : Int32) (x4 : Int32) (x5 : Int32) (x10 : Int32) (x11 : Int32) (x12 : Int32) (x13 : Int32) (w6 : Int64) (w8 : Int64) (w14 : Int64) (r1 : Nat) (t2 : Int32) (y0 : Int64) (y1 : Int64) (z : ow_MS) : Option ow_MS :=
 (if 24 ≤ x5 then some z
 else (if ((x5 - 1) &&& 1) = 0 then go 5 x2 x3 x4 x5 0 0 0 0 0 0 0 r1 0 1 0 z
 else go 5 x2 x3 x4 x5 0 0 0 0 0 0 0 r1 0 (-1) 0 z))
def qm_X13_makeJones_5 (K : Nat) (go : Nat → Int32 → Int32 → Int32 → Int32 → Int32 → Int32 → Int32 → Int32 → Int64 → Int64 → Int64 → Nat → Int32 → Int64 → Int64 → ow_MS → Option ow_MS) (x2 : Int32) (x3 : Int32) (x4 : Int32) (x5 : Int32) (x10 : Int32) (x11 : Int32) (x12 : Int32) (x13 : Int32) (w6 : Int64) (w8 : Int64) (w14 : Int64) (r1 : Nat) (t2 : Int32) (y0 : Int64) (y1 : Int64) (z : ow_MS) : Option ow_MS :=
 go 6 x2 x3 x4 x5 0 0 0 0 y0 y0 0 r1 0 0 0 z
def qm_X13_makeJones_6 (K : Nat) (go : Nat → Int32 → Int32 → Int32 → Int32 → Int32 → Int32 → Int32 → Int32 → Int64 → Int64 → Int64 → Nat → Int32 → Int64 → Int64 → ow_MS → Option ow_MS) (x2 : Int32) (x3 : Int32) (x4 : Int32) (x5 : Int32) (x10 : Int32) (x11 : Int32) (x12 : Int32) (x13 : Int32) (w6 : Int64) (w8 : Int64) (w14 : Int64) (r1 : Nat) (t2 : Int32) (y0 : Int64) (y1 : Int64) (z : ow_MS) : Option ow_MS :=
 (if x5 ≤ x10 then go 4 x2 x3 x4 (x5 + 1) 0 0 0 0 0 0 0 r1 0 0 0 z
 else go 7 x2 x3 x4 x5 x10 ((2 * (x5 - 1)) - (4 * x10)) 0 0 w6 w8 0 r1 0 0 0 z)
def qm_X13_makeJones_7 (K : Nat) (go : Nat → Int32 → Int32 → Int32 → Int32 → Int32 → Int32 → Int32 → Int32 → Int64 → Int64 → Int64 → Nat → Int32 → Int64 → Int64 → ow_MS → Option ow_MS) (x2 : Int32) (x3 : Int32) (x4 : Int32) (x5 : Int32) (x10 : Int32) (x11 : Int32) (x12 : Int32) (x13 : Int32) (w6 : Int64) (w8 : Int64) (w14 : Int64) (r1 : Nat) (t2 : Int32) (y0 : Int64) (y1 : Int64) (z : ow_MS) : Option ow_MS :=
 (if x2 < x12 then nzJ ((x10 + 1).toInt64) (go 6 x2 x3 x4 x5 (x10 + 1) 0 0 0 w6 ((w8 * (((x5 - 1) - x10).toInt64)) / ((x10 + 1).toInt64)) 0 r1 0 0 0 z)
 else rdJ mX z 51 ((24 * x12) + x5) fun v14 => (if (lg_cmp v14 0) = 0 then go 9 x2 x3 x4 x5 x10 x11 x12 (((x11 + x12) - (x2 - x12)) - (3 * x4)) w6 w8 v14 r1 0 0 0 z
 else rdJ mX z 48 ((((x11 + x12) - (x2 - x12)) - (3 * x4)) + 100) fun v15 => (if (x4 &&& 1) = 0 then go 8 x2 x3 x4 x5 x10 x11 x12 (((x11 + x12) - (x2 - x12)) - (3 * x4)) w6 w8 v14 r1 ((((x11 + x12) - (x2 - x12)) - (3 * x4)) + 100) (v14 * w8) v15 z
 else go 8 x2 x3 x4 x5 x10 x11 x12 (((x11 + x12) - (x2 - x12)) - (3 * x4)) w6 w8 v14 r1 ((((x11 + x12) - (x2 - x12)) - (3 * x4)) + 100) (0 - (v14 * w8)) v15 z)))
def qm_X13_makeJones_8 (K : Nat) (go : Nat → Int32 → Int32 → Int32 → Int32 → Int32 → Int32 → Int32 → Int32 → Int64 → Int64 → Int64 → Nat → Int32 → Int64 → Int64 → ow_MS → Option ow_MS) (x2 : Int32) (x3 : Int32) (x4 : Int32) (x5 : Int32) (x10 : Int32) (x11 : Int32) (x12 : Int32) (x13 : Int32) (w6 : Int64) (w8 : Int64) (w14 : Int64) (r1 : Nat) (t2 : Int32) (y0 : Int64) (y1 : Int64) (z : ow_MS) : Option ow_MS :=
 wrJ mX z 48 t2 (y1 + y0) fun z16 => go 9 x2 x3 x4 x5 x10 x11 x12 x13 w6 w8 w14 r1 0 0 0 z16
def qm_X13_makeJones_9 (K : Nat) (go : Nat → Int32 → Int32 → Int32 → Int32 → Int32 → Int32 → Int32 → Int32 → Int64 → Int64 → Int64 → Nat → Int32 → Int64 → Int64 → ow_MS → Option ow_MS) (x2 : Int32) (x3 : Int32) (x4 : Int32) (x5 : Int32) (x10 : Int32) (x11 : Int32) (x12 : Int32) (x13 : Int32) (w6 : Int64) (w8 : Int64) (w14 : Int64) (r1 : Nat) (t2 : Int32) (y0 : Int64) (y1 : Int64) (z : ow_MS) : Option ow_MS :=
 go 7 x2 x3 x4 x5 x10 x11 (x12 + 1) 0 w6 w8 0 r1 0 0 0 z
def qb_X13_makeJones (K : Nat) (go : Nat → Int32 → Int32 → Int32 → Int32 → Int32 → Int32 → Int32 → Int32 → Int64 → Int64 → Int64 → Nat → Int32 → Int64 → Int64 → ow_MS → Option ow_MS) (L : Nat) (x2 : Int32) (x3 : Int32) (x4 : Int32) (x5 : Int32) (x10 : Int32) (x11 : Int32) (x12 : Int32) (x13 : Int32) (w6 : Int64) (w8 : Int64) (w14 : Int64) (r1 : Nat) (t2 : Int32) (y0 : Int64) (y1 : Int64) (z : ow_MS) : Option ow_MS := match L with
  | 0 => qm_X13_makeJones_0 K go x2 x3 x4 x5 x10 x11 x12 x13 w6 w8 w14 r1 t2 y0 y1 z
  | 1 => qm_X13_makeJones_1 K go x2 x3 x4 x5 x10 x11 x12 x13 w6 w8 w14 r1 t2 y0 y1 z
  | 2 => qm_X13_makeJones_2 K go x2 x3 x4 x5 x10 x11 x12 x13 w6 w8 w14 r1 t2 y0 y1 z
  | 3 => qm_X13_makeJones_3 K go x2 x3 x4 x5 x10 x11 x12 x13 w6 w8 w14 r1 t2 y0 y1 z
  | 4 => qm_X13_makeJones_4 K go x2 x3 x4 x5 x10 x11 x12 x13 w6 w8 w14 r1 t2 y0 y1 z
  | 5 => qm_X13_makeJones_5 K go x2 x3 x4 x5 x10 x11 x12 x13 w6 w8 w14 r1 t2 y0 y1 z
  | 6 => qm_X13_makeJones_6 K go x2 x3 x4 x5 x10 x11 x12 x13 w6 w8 w14 r1 t2 y0 y1 z
  | 7 => qm_X13_makeJones_7 K go x2 x3 x4 x5 x10 x11 x12 x13 w6 w8 w14 r1 t2 y0 y1 z
  | 8 => qm_X13_makeJones_8 K go x2 x3 x4 x5 x10 x11 x12 x13 w6 w8 w14 r1 t2 y0 y1 z
  | 9 => qm_X13_makeJones_9 K go x2 x3 x4 x5 x10 x11 x12 x13 w6 w8 w14 r1 t2 y0 y1 z
  | _ => none
def q_X13_makeJones (K : Nat) : Nat → Nat → Int32 → Int32 → Int32 → Int32 → Int32 → Int32 → Int32 → Int32 → Int64 → Int64 → Int64 → Nat → Int32 → Int64 → Int64 → ow_MS → Option ow_MS
  | 0 => fun _ _ _ _ _ _ _ _ _ _ _ _ _ _ _ _ _ => none
  | k + 1 => qb_X13_makeJones K (q_X13_makeJones K k)
def qe_X13_makeJones (K : Nat) (r1 : Nat) (z : ow_MS) : Option ow_MS := q_X13_makeJones K K 0 0 0 0 0 0 0 0 0 0 0 0 r1 0 0 0 z
abbrev wm_X13_makeJones : List Cond := .code yX13_makeJones cX13_makeJones 16 none :: wM
theorem cd_X13_makeJones : yX13_makeJones.cls = RX13 ∧ yX13_makeJones.cls ≠ "java/lang/invoke/MethodHandle" ∧ yX13_makeJones.cls ≠ "java/lang/invoke/VarHandle" ∧ (parseMethodDescriptor yX13_makeJones.desc).map (fun d => d.parameters.length) = some 1 := by decide +kernel
set_option maxHeartbeats 4000000 in
set_option maxRecDepth 100000 in
theorem km_X13_makeJones (l : Launch) (D : va_G) (q : ow_Q5) (u : Nat → Nat) (hU : tw_inj mX u) (K : Nat) (r1 : Nat) (hr1 : mw_net r1) (z z1 : ow_MS) (hq : qe_X13_makeJones K r1 z = some z1) : Met l yX13_makeJones wm_X13_makeJones ({ frames := 3, cells := 0, slots := 0, locals := 71 } : Room) (va_Pc [.ref (u 0), .ref (u r1)] (mw_pre D q u z)) (va_Qv (fun (_ : Unit) => True) (fun _ t => va_P D vwCl (tw mX q u z1) t.heap) (tw_A mX u)) 0 0 (tw_A mX u) := by
  refine Met.ofW (cc := cX13_makeJones) (maxL := 16) (ret := none) (by decide) rfl ?_
  intro p e s m args below meth c s₁ B hml hv
  obtain ⟨rfl, hP, hK, hN⟩ := hv
  have hx := B.exec
  have hb := B.bytes
  have hr := B.returns
  have hts := atoms_spec (ws := wm_X13_makeJones) B.pre
  have hT : ∀ w ∈ wM, w.before ([.ref (u 0), .ref (u r1)] : List Value).toArray s = true := fun w h => hts w (List.mem_cons_of_mem _ h)
  have hown : s.vm.findClass RX13 = some m.cls := findClass_of_methodNamed B.named
  have hlocks := B.notSynchronized
  have hM : tw_M D vwCl mX q s.heap u z s.heap [] := ⟨hP, va_S.rf⟩
  have hl := lv_entry ([.ref (u 0), .ref (u r1)]) (n := 16) (Nat.le_of_ble_eq_true rfl)
  rw [lg_entry_eq]
  generalize (lg_sl ([.ref (u 0), .ref (u r1)]) ++ List.replicate (16 - (lg_sl ([.ref (u 0), .ref (u r1)])).length) Slot.unset).toArray = ls at hl ⊢
  have hl : lv_has ls 16 [(0, .ref (u 0)), (1, .ref (u r1))] := hl
  refine ow_named (fun QQ hQQ => ?_)
  generalize ([.ref (u 0), .ref (u r1)] : List Value).toArray = args at hts hT hQQ ⊢
  have key : ∀ k : Nat, (∀ (x2 : Int32) (x3 : Int32) (x4 : Int32) (x5 : Int32) (x10 : Int32) (x11 : Int32) (x12 : Int32) (x13 : Int32) (w6 : Int64) (w8 : Int64) (w14 : Int64) (r1 : Nat) (t2 : Int32) (y0 : Int64) (y1 : Int64) (z : ow_MS) (H : Heap) (locs : List Loc) (ls : Array Slot), mw_net r1 → tw_M D vwCl mX q s.heap u z H locs → lv_has ls 16 [(0, .ref (u 0)), (1, .ref (u r1))] → q_X13_makeJones K k 0 x2 x3 x4 x5 x10 x11 x12 x13 w6 w8 w14 r1 t2 y0 y1 z = some z1 → W p l e ({ frames := 3, cells := 0, slots := 0, locals := 71 } : Room) s m args below meth c H locs 0 0 QQ (F0 m 0 ls [])) ∧ (∀ (x2 : Int32) (x3 : Int32) (x4 : Int32) (x5 : Int32) (x10 : Int32) (x11 : Int32) (x12 : Int32) (x13 : Int32) (w6 : Int64) (w8 : Int64) (w14 : Int64) (r1 : Nat) (t2 : Int32) (y0 : Int64) (y1 : Int64) (z : ow_MS) (H : Heap) (locs : List Loc) (ls : Array Slot), mw_net r1 → tw_M D vwCl mX q s.heap u z H locs → lv_has ls 16 [(0, .ref (u 0)), (1, .ref (u r1)), (2, .int x2), (3, .int x3), (4, .int x4)] → q_X13_makeJones K k 1 x2 x3 x4 x5 x10 x11 x12 x13 w6 w8 w14 r1 t2 y0 y1 z = some z1 → W p l e ({ frames := 3, cells := 0, slots := 0, locals := 71 } : Room) s m args below meth c H locs 0 0 QQ (F0 m 16 ls [])) ∧ (∀ (x2 : Int32) (x3 : Int32) (x4 : Int32) (x5 : Int32) (x10 : Int32) (x11 : Int32) (x12 : Int32) (x13 : Int32) (w6 : Int64) (w8 : Int64) (w14 : Int64) (r1 : Nat) (t2 : Int32) (y0 : Int64) (y1 : Int64) (z : ow_MS) (H : Heap) (locs : List Loc) (ls : Array Slot), mw_net r1 → tw_M D vwCl mX q s.heap u z H locs → lv_has ls 16 [(0, .ref (u 0)), (1, .ref (u r1)), (2, .int x2), (3, .int x3), (4, .int x4)] → q_X13_makeJones K k 2 x2 x3 x4 x5 x10 x11 x12 x13 w6 w8 w14 r1 t2 y0 y1 z = some z1 → W p l e ({ frames := 3, cells := 0, slots := 0, locals := 71 } : Room) s m args below meth c H locs 0 0 QQ (F0 m 43 ls [])) ∧ (∀ (x2 : Int32) (x3 : Int32) (x4 : Int32) (x5 : Int32) (x10 : Int32) (x11 : Int32) (x12 : Int32) (x13 : Int32) (w6 : Int64) (w8 : Int64) (w14 : Int64) (r1 : Nat) (t2 : Int32) (y0 : Int64) (y1 : Int64) (z : ow_MS) (H : Heap) (locs : List Loc) (ls : Array Slot), mw_net r1 → tw_M D vwCl mX q s.heap u z H locs → lv_has ls 16 [(0, .ref (u 0)), (1, .ref (u r1)), (2, .int x2), (3, .int x3), (4, .int x4)] → q_X13_makeJones K k 3 x2 x3 x4 x5 x10 x11 x12 x13 w6 w8 w14 r1 t2 y0 y1 z = some z1 → W p l e ({ frames := 3, cells := 0, slots := 0, locals := 71 } : Room) s m args below meth c H locs 0 0 QQ (F0 m 94 ls [])) ∧ (∀ (x2 : Int32) (x3 : Int32) (x4 : Int32) (x5 : Int32) (x10 : Int32) (x11 : Int32) (x12 : Int32) (x13 : Int32) (w6 : Int64) (w8 : Int64) (w14 : Int64) (r1 : Nat) (t2 : Int32) (y0 : Int64) (y1 : Int64) (z : ow_MS) (H : Heap) (locs : List Loc) (ls : Array Slot), mw_net r1 → tw_M D vwCl mX q s.heap u z H locs → lv_has ls 16 [(0, .ref (u 0)), (1, .ref (u r1)), (2, .int x2), (3, .int x3), (4, .int x4), (5, .int x5)] → q_X13_makeJones K k 4 x2 x3 x4 x5 x10 x11 x12 x13 w6 w8 w14 r1 t2 y0 y1 z = some z1 → W p l e ({ frames := 3, cells := 0, slots := 0, locals := 71 } : Room) s m args below meth c H locs 0 0 QQ (F0 m 125 ls [])) ∧ (∀ (x2 : Int32) (x3 : Int32) (x4 : Int32) (x5 : Int32) (x10 : Int32) (x11 : Int32) (x12 : Int32) (x13 : Int32) (w6 : Int64) (w8 : Int64) (w14 : Int64) (r1 : Nat) (t2 : Int32) (y0 : Int64) (y1 : Int64) (z : ow_MS) (H : Heap) (locs : List Loc) (ls : Array Slot), mw_net r1 → tw_M D vwCl mX q s.heap u z H locs → lv_has ls 16 [(0, .ref (u 0)), (1, .ref (u r1)), (2, .int x2), (3, .int x3), (4, .int x4), (5, .int x5)] → q_X13_makeJones K k 5 x2 x3 x4 x5 x10 x11 x12 x13 w6 w8 w14 r1 t2 y0 y1 z = some z1 → W p l e ({ frames := 3, cells := 0, slots := 0, locals := 71 } : Room) s m args below meth c H locs 0 0 QQ (F0 m 148 ls [.long y0])) ∧ (∀ (x2 : Int32) (x3 : Int32) (x4 : Int32) (x5 : Int32) (x10 : Int32) (x11 : Int32) (x12 : Int32) (x13 : Int32) (w6 : Int64) (w8 : Int64) (w14 : Int64) (r1 : Nat) (t2 : Int32) (y0 : Int64) (y1 : Int64) (z : ow_MS) (H : Heap) (locs : List Loc) (ls : Array Slot), mw_net r1 → tw_M D vwCl mX q s.heap u z H locs → lv_has ls 16 [(0, .ref (u 0)), (1, .ref (u r1)), (2, .int x2), (3, .int x3), (4, .int x4), (5, .int x5), (6, .long w6), (8, .long w8), (10, .int x10)] → q_X13_makeJones K k 6 x2 x3 x4 x5 x10 x11 x12 x13 w6 w8 w14 r1 t2 y0 y1 z = some z1 → W p l e ({ frames := 3, cells := 0, slots := 0, locals := 71 } : Room) s m args below meth c H locs 0 0 QQ (F0 m 157 ls [])) ∧ (∀ (x2 : Int32) (x3 : Int32) (x4 : Int32) (x5 : Int32) (x10 : Int32) (x11 : Int32) (x12 : Int32) (x13 : Int32) (w6 : Int64) (w8 : Int64) (w14 : Int64) (r1 : Nat) (t2 : Int32) (y0 : Int64) (y1 : Int64) (z : ow_MS) (H : Heap) (locs : List Loc) (ls : Array Slot), mw_net r1 → tw_M D vwCl mX q s.heap u z H locs → lv_has ls 16 [(0, .ref (u 0)), (1, .ref (u r1)), (2, .int x2), (3, .int x3), (4, .int x4), (5, .int x5), (6, .long w6), (8, .long w8), (10, .int x10), (11, .int x11), (12, .int x12)] → q_X13_makeJones K k 7 x2 x3 x4 x5 x10 x11 x12 x13 w6 w8 w14 r1 t2 y0 y1 z = some z1 → W p l e ({ frames := 3, cells := 0, slots := 0, locals := 71 } : Room) s m args below meth c H locs 0 0 QQ (F0 m 180 ls [])) ∧ (∀ (x2 : Int32) (x3 : Int32) (x4 : Int32) (x5 : Int32) (x10 : Int32) (x11 : Int32) (x12 : Int32) (x13 : Int32) (w6 : Int64) (w8 : Int64) (w14 : Int64) (r1 : Nat) (t2 : Int32) (y0 : Int64) (y1 : Int64) (z : ow_MS) (H : Heap) (locs : List Loc) (ls : Array Slot), mw_net r1 → tw_M D vwCl mX q s.heap u z H locs → lv_has ls 16 [(0, .ref (u 0)), (1, .ref (u r1)), (2, .int x2), (3, .int x3), (4, .int x4), (5, .int x5), (6, .long w6), (8, .long w8), (10, .int x10), (11, .int x11), (12, .int x12), (13, .int x13), (14, .long w14)] → q_X13_makeJones K k 8 x2 x3 x4 x5 x10 x11 x12 x13 w6 w8 w14 r1 t2 y0 y1 z = some z1 → W p l e ({ frames := 3, cells := 0, slots := 0, locals := 71 } : Room) s m args below meth c H locs 0 0 QQ (F0 m 258 ls [.long y0, .long y1, .int t2, .ref (u 48)])) ∧ (∀ (x2 : Int32) (x3 : Int32) (x4 : Int32) (x5 : Int32) (x10 : Int32) (x11 : Int32) (x12 : Int32) (x13 : Int32) (w6 : Int64) (w8 : Int64) (w14 : Int64) (r1 : Nat) (t2 : Int32) (y0 : Int64) (y1 : Int64) (z : ow_MS) (H : Heap) (locs : List Loc) (ls : Array Slot), mw_net r1 → tw_M D vwCl mX q s.heap u z H locs → lv_has ls 16 [(0, .ref (u 0)), (1, .ref (u r1)), (2, .int x2), (3, .int x3), (4, .int x4), (5, .int x5), (6, .long w6), (8, .long w8), (10, .int x10), (11, .int x11), (12, .int x12), (13, .int x13), (14, .long w14)] → q_X13_makeJones K k 9 x2 x3 x4 x5 x10 x11 x12 x13 w6 w8 w14 r1 t2 y0 y1 z = some z1 → W p l e ({ frames := 3, cells := 0, slots := 0, locals := 71 } : Room) s m args below meth c H locs 0 0 QQ (F0 m 260 ls [])) := by
    intro k
    induction k with
    | zero => exact ⟨fun _ _ _ _ _ _ _ _ _ _ _ _ _ _ _ _ _ _ _ _ _ _ hq => tw_no hq, fun _ _ _ _ _ _ _ _ _ _ _ _ _ _ _ _ _ _ _ _ _ _ hq => tw_no hq, fun _ _ _ _ _ _ _ _ _ _ _ _ _ _ _ _ _ _ _ _ _ _ hq => tw_no hq, fun _ _ _ _ _ _ _ _ _ _ _ _ _ _ _ _ _ _ _ _ _ _ hq => tw_no hq, fun _ _ _ _ _ _ _ _ _ _ _ _ _ _ _ _ _ _ _ _ _ _ hq => tw_no hq, fun _ _ _ _ _ _ _ _ _ _ _ _ _ _ _ _ _ _ _ _ _ _ hq => tw_no hq, fun _ _ _ _ _ _ _ _ _ _ _ _ _ _ _ _ _ _ _ _ _ _ hq => tw_no hq, fun _ _ _ _ _ _ _ _ _ _ _ _ _ _ _ _ _ _ _ _ _ _ hq => tw_no hq, fun _ _ _ _ _ _ _ _ _ _ _ _ _ _ _ _ _ _ _ _ _ _ hq => tw_no hq, fun _ _ _ _ _ _ _ _ _ _ _ _ _ _ _ _ _ _ _ _ _ _ hq => tw_no hq⟩
    | succ k ih =>
      obtain ⟨ih_0, ih_1, ih_2, ih_3, ih_4, ih_5, ih_6, ih_7, ih_8, ih_9⟩ := ih
      refine ⟨?_, ?_, ?_, ?_, ?_, ?_, ?_, ?_, ?_, ?_⟩
      · intro x2 x3 x4 x5 x10 x11 x12 x13 w6 w8 w14 r1 t2 y0 y1 z H locs ls hr1 hM hl hq
        have hq : qm_X13_makeJones_0 K (q_X13_makeJones K k) x2 x3 x4 x5 x10 x11 x12 x13 w6 w8 w14 r1 t2 y0 y1 z = some z1 := hq
        unfold qm_X13_makeJones_0 at hq
        refine lv_aload_n hx hb dmX13_makeJones_0 rfl (lv_at hl 1 rfl) ?_
        refine mg13_44 hx hb hT hown hK hM hN hr1 hq dmX13_makeJones_1 (fun v1 hq => ?_)
        refine lv_iconst (v := 2) hx hb dmX13_makeJones_4 (by decide) ?_
        obtain ⟨hz, hq⟩ := tw_nzI hq
        refine lv_idiv hx hb dmX13_makeJones_5 hz ?_
        refine lv_istore_n (lv' := [(2, .int (v1 / 2)), (0, .ref (u 0)), (1, .ref (u r1))]) hx hb dmX13_makeJones_6 rfl hl (by decide) rfl (fun ls hl => ?_)
        refine lv_aload_n hx hb dmX13_makeJones_7 rfl (lv_at hl 1 rfl) ?_
        refine lv_aload_n hx hb dmX13_makeJones_8 rfl (lv_at hl 2 rfl) ?_
        obtain ⟨v3, z2, hcq, hq⟩ := tw_cl1 hq
        refine tw_cali hM (va_runV (As := [.ref (u r1)]) (rest := []) ⟨hx, hb, hml, hown, hts⟩ (km_X13_circlesOf l D q u hU K r1 hr1 z z2 v3 hcq) (cwV 1 hts (tw_gV wM_good wq_141 wq_142 wq_143 wq_61 wq_132) rfl rfl rfl cd_X13_circlesOf ⟨(Nat.le_of_ble_eq_true rfl), (Nat.le_of_ble_eq_true rfl)⟩) (mw_preV hK hN hM mo_0 rfl) rfl rfl hl.1 rfl (lv_room (Nat.le_of_ble_eq_true rfl)) dmX13_makeJones_9 ⟨(Nat.le_of_ble_eq_true rfl), (Nat.le_of_ble_eq_true rfl)⟩) (fun H locs hM => ?_)
        refine lv_istore_n (lv' := [(3, .int v3), (2, .int (v1 / 2)), (0, .ref (u 0)), (1, .ref (u r1))]) hx hb dmX13_makeJones_12 rfl hl (by decide) rfl (fun ls hl => ?_)
        refine lv_iconst (v := 0) hx hb dmX13_makeJones_13 (by decide) ?_
        refine lv_istore (lv' := [(4, .int 0), (3, .int v3), (2, .int (v1 / 2)), (0, .ref (u 0)), (1, .ref (u r1))]) hx hb dmX13_makeJones_14 hl (by decide) rfl (fun ls hl => ?_)
        exact ih_1 (v1 / 2) v3 0 0 0 0 0 0 0 0 0 r1 0 0 0 z2 H locs ls hr1 hM (lv_sub hl [3, 4, 2, 1, 0] rfl) hq
      · intro x2 x3 x4 x5 x10 x11 x12 x13 w6 w8 w14 r1 t2 y0 y1 z H locs ls hr1 hM hl hq
        have hq : qm_X13_makeJones_1 K (q_X13_makeJones K k) x2 x3 x4 x5 x10 x11 x12 x13 w6 w8 w14 r1 t2 y0 y1 z = some z1 := hq
        unfold qm_X13_makeJones_1 at hq
        refine lv_iload hx hb dmX13_makeJones_16 (lv_at hl 4 rfl) ?_
        refine lv_aload_n hx hb dmX13_makeJones_18 rfl (lv_at hl 0 rfl) ?_
        refine mg13_211 hx hb hT hown hK hM dmX13_makeJones_19 ?_
        refine tw_alen2 mX_ok hx hb hK hM mr_51 dmX13_makeJones_22 ?_
        refine lv_icmp_ge (tgt := 40) hx hb dmX13_makeJones_23 (by decide) (fun hc => ?_) (fun hc => ?_)
        · have hq := tw_it hq hc
          refine lv_iconst (v := 0) hx hb dmX13_makeJones_40 (by decide) ?_
          refine lv_istore (lv' := [(4, .int 0), (0, .ref (u 0)), (1, .ref (u r1)), (2, .int x2), (3, .int x3)]) hx hb dmX13_makeJones_41 hl (by decide) rfl (fun ls hl => ?_)
          exact ih_2 x2 x3 0 0 0 0 0 0 0 0 0 r1 0 0 0 z H locs ls hr1 hM (lv_sub hl [1, 2, 3, 4, 0] rfl) hq
        · have hq := tw_if hq hc
          refine lv_aload_n hx hb dmX13_makeJones_26 rfl (lv_at hl 0 rfl) ?_
          refine mg13_211 hx hb hT hown hK hM dmX13_makeJones_27 ?_
          refine lv_iload hx hb dmX13_makeJones_30 (lv_at hl 4 rfl) ?_
          refine lv_lconst (v := 0) hx hb dmX13_makeJones_32 rfl ?_
          refine tw_last mX_ok hU hx hb hK hM mr_51 hq dmX13_makeJones_33 (fun z4 H locs hM hq => ?_)
          refine lv_iinc (v := (x4 + 1)) (lv' := [(4, .int (x4 + 1)), (0, .ref (u 0)), (1, .ref (u r1)), (2, .int x2), (3, .int x3)]) hx hb dmX13_makeJones_34 hl (k := 4) rfl rfl (by decide) rfl (fun ls hl => ?_)
          refine lv_goto (tgt := 16) hx hb dmX13_makeJones_37 (by decide) ?_
          exact ih_1 x2 x3 (x4 + 1) 0 0 0 0 0 0 0 0 r1 0 0 0 z4 H locs ls hr1 hM (lv_sub hl [1, 2, 3, 4, 0] rfl) hq
      · intro x2 x3 x4 x5 x10 x11 x12 x13 w6 w8 w14 r1 t2 y0 y1 z H locs ls hr1 hM hl hq
        have hq : qm_X13_makeJones_2 K (q_X13_makeJones K k) x2 x3 x4 x5 x10 x11 x12 x13 w6 w8 w14 r1 t2 y0 y1 z = some z1 := hq
        unfold qm_X13_makeJones_2 at hq
        refine lv_iload hx hb dmX13_makeJones_43 (lv_at hl 4 rfl) ?_
        refine lv_iconst (v := 1) hx hb dmX13_makeJones_45 (by decide) ?_
        refine lv_iload_n hx hb dmX13_makeJones_46 rfl (lv_at hl 2 rfl) ?_
        refine lv_ishl hx hb dmX13_makeJones_47 ?_
        refine lv_icmp_ge (tgt := 91) hx hb dmX13_makeJones_48 (by decide) (fun hc => ?_) (fun hc => ?_)
        · have hq := tw_it hq hc
          refine lv_iconst (v := 0) hx hb dmX13_makeJones_91 (by decide) ?_
          refine lv_istore (lv' := [(4, .int 0), (0, .ref (u 0)), (1, .ref (u r1)), (2, .int x2), (3, .int x3)]) hx hb dmX13_makeJones_92 hl (by decide) rfl (fun ls hl => ?_)
          exact ih_3 x2 x3 0 0 0 0 0 0 0 0 0 r1 0 0 0 z H locs ls hr1 hM (lv_sub hl [1, 2, 3, 4, 0] rfl) hq
        · have hq := tw_if hq hc
          refine lv_aload_n hx hb dmX13_makeJones_51 rfl (lv_at hl 0 rfl) ?_
          refine lv_aload_n hx hb dmX13_makeJones_52 rfl (lv_at hl 1 rfl) ?_
          refine lv_iload hx hb dmX13_makeJones_53 (lv_at hl 4 rfl) ?_
          obtain ⟨z5, hcq, hq⟩ := tw_cl0 hq
          refine tw_calv hM (va_runV (As := [.ref (u r1), .int x4]) (rest := []) ⟨hx, hb, hml, hown, hts⟩ (km_X13_loops l D q u hU K r1 x4 hr1 z z5 hcq) (cwV 2 hts (tw_gV wM_good wq_304 wq_305 wq_306 wq_61 wq_299) rfl rfl rfl cd_X13_loops ⟨(Nat.le_of_ble_eq_true rfl), (Nat.le_of_ble_eq_true rfl)⟩) (mw_preV hK hN hM mo_0 rfl) rfl rfl hl.1 rfl (lv_room (Nat.le_of_ble_eq_true rfl)) dmX13_makeJones_55 ⟨(Nat.le_of_ble_eq_true rfl), (Nat.le_of_ble_eq_true rfl)⟩) (fun H locs hM => ?_)
          refine lv_aload_n hx hb dmX13_makeJones_58 rfl (lv_at hl 0 rfl) ?_
          refine mg13_211 hx hb hT hown hK hM dmX13_makeJones_59 ?_
          refine lv_bipush (v := 24) hx hb dmX13_makeJones_62 (by decide) ?_
          refine lv_iload_n hx hb dmX13_makeJones_64 rfl (lv_at hl 2 rfl) ?_
          refine lv_iload hx hb dmX13_makeJones_65 (lv_at hl 4 rfl) ?_
          refine mw_pure hM (va_runS (As := [.int x4]) (rest := [.int x2, .int 24, .ref (u 51)]) ⟨hx, hb, hml, hown, hts⟩ (k_J6_bitCount_0f7a4 l x4) (va_cwS 1 hts (mw_gbc wq_307) rfl rfl rfl (by decide +kernel) ⟨(Nat.le_of_ble_eq_true rfl), (Nat.le_of_ble_eq_true rfl)⟩) ⟨fun a U g mk q => q, fun U hU hW => ⟨rfl, trivial⟩⟩ rfl rfl hl.1 rfl (lv_room (Nat.le_of_ble_eq_true rfl)) dmX13_makeJones_67 ⟨(Nat.le_of_ble_eq_true rfl), (Nat.le_of_ble_eq_true rfl)⟩) (fun H locs hM => ?_)
          refine lv_isub hx hb dmX13_makeJones_70 ?_
          refine lv_imul hx hb dmX13_makeJones_71 ?_
          refine lv_aload_n hx hb dmX13_makeJones_72 rfl (lv_at hl 0 rfl) ?_
          refine lv_aload_n hx hb dmX13_makeJones_73 rfl (lv_at hl 1 rfl) ?_
          obtain ⟨v8, z7, hcq, hq⟩ := tw_cl1 hq
          refine tw_cali hM (va_runV (As := [.ref (u r1)]) (rest := [.int (24 * (x2 - (ow_bc x4))), .ref (u 51)]) ⟨hx, hb, hml, hown, hts⟩ (km_X13_countLoops l D q u hU K r1 hr1 z5 z7 v8 hcq) (cwV 1 hts (tw_gV wM_good wq_314 wq_315 wq_316 wq_61 wq_300) rfl rfl rfl cd_X13_countLoops ⟨(Nat.le_of_ble_eq_true rfl), (Nat.le_of_ble_eq_true rfl)⟩) (mw_preV hK hN hM mo_0 rfl) rfl rfl hl.1 rfl (lv_room (Nat.le_of_ble_eq_true rfl)) dmX13_makeJones_74 ⟨(Nat.le_of_ble_eq_true rfl), (Nat.le_of_ble_eq_true rfl)⟩) (fun H locs hM => ?_)
          refine lv_iadd hx hb dmX13_makeJones_77 ?_
          refine lv_iload_n hx hb dmX13_makeJones_78 rfl (lv_at hl 3 rfl) ?_
          refine lv_iadd hx hb dmX13_makeJones_79 ?_
          refine lv_dup2_11 hx hb dmX13_makeJones_80 rfl rfl ?_
          refine tw_lald mX_ok hx hb hK hM mr_51 hq dmX13_makeJones_81 (fun v9 hq => ?_)
          refine lv_lconst (v := 1) hx hb dmX13_makeJones_82 rfl ?_
          refine lv_ladd hx hb dmX13_makeJones_83 ?_
          refine tw_last mX_ok hU hx hb hK hM mr_51 hq dmX13_makeJones_84 (fun z10 H locs hM hq => ?_)
          refine lv_iinc (v := (x4 + 1)) (lv' := [(4, .int (x4 + 1)), (0, .ref (u 0)), (1, .ref (u r1)), (2, .int x2), (3, .int x3)]) hx hb dmX13_makeJones_85 hl (k := 4) rfl rfl (by decide) rfl (fun ls hl => ?_)
          refine lv_goto (tgt := 43) hx hb dmX13_makeJones_88 (by decide) ?_
          exact ih_2 x2 x3 (x4 + 1) 0 0 0 0 0 0 0 0 r1 0 0 0 z10 H locs ls hr1 hM (lv_sub hl [1, 2, 3, 4, 0] rfl) hq
      · intro x2 x3 x4 x5 x10 x11 x12 x13 w6 w8 w14 r1 t2 y0 y1 z H locs ls hr1 hM hl hq
        have hq : qm_X13_makeJones_3 K (q_X13_makeJones K k) x2 x3 x4 x5 x10 x11 x12 x13 w6 w8 w14 r1 t2 y0 y1 z = some z1 := hq
        unfold qm_X13_makeJones_3 at hq
        refine lv_iload hx hb dmX13_makeJones_94 (lv_at hl 4 rfl) ?_
        refine lv_sipush (v := 200) hx hb dmX13_makeJones_96 (by decide) ?_
        refine lv_icmp_gt (tgt := 116) hx hb dmX13_makeJones_99 (by decide) (fun hc => ?_) (fun hc => ?_)
        · have hq := tw_it hq hc
          refine lv_aload_n hx hb dmX13_makeJones_116 rfl (lv_at hl 1 rfl) ?_
          obtain ⟨v12, z11, hcq, hq⟩ := tw_cl1 hq
          refine tw_cali hM (va_runS (As := [.ref (u r1)]) (rest := []) ⟨hx, hb, hml, hown, hts⟩ (km_X13_writheOf l D q u hU K r1 hr1 z z11 v12 hcq) (va_cwS 1 hts (tw_gS wM_good wq_144 wq_145 wq_61 wq_133) rfl rfl rfl cd_X13_writheOf ⟨(Nat.le_of_ble_eq_true rfl), (Nat.le_of_ble_eq_true rfl)⟩) (mw_preS hK hN hM) rfl rfl hl.1 rfl (lv_room (Nat.le_of_ble_eq_true rfl)) dmX13_makeJones_117 ⟨(Nat.le_of_ble_eq_true rfl), (Nat.le_of_ble_eq_true rfl)⟩) (fun H locs hM => ?_)
          refine lv_istore (lv' := [(4, .int v12), (0, .ref (u 0)), (1, .ref (u r1)), (2, .int x2), (3, .int x3)]) hx hb dmX13_makeJones_120 hl (by decide) rfl (fun ls hl => ?_)
          refine lv_iconst (v := 1) hx hb dmX13_makeJones_122 (by decide) ?_
          refine lv_istore (lv' := [(5, .int 1), (4, .int v12), (0, .ref (u 0)), (1, .ref (u r1)), (2, .int x2), (3, .int x3)]) hx hb dmX13_makeJones_123 hl (by decide) rfl (fun ls hl => ?_)
          exact ih_4 x2 x3 v12 1 0 0 0 0 0 0 0 r1 0 0 0 z11 H locs ls hr1 hM (lv_sub hl [2, 3, 4, 5, 1, 0] rfl) hq
        · have hq := tw_if hq hc
          refine lv_aload_n hx hb dmX13_makeJones_102 rfl (lv_at hl 0 rfl) ?_
          refine mg13_202 hx hb hT hown hK hM dmX13_makeJones_103 ?_
          refine lv_iload hx hb dmX13_makeJones_106 (lv_at hl 4 rfl) ?_
          refine lv_lconst (v := 0) hx hb dmX13_makeJones_108 rfl ?_
          refine tw_last mX_ok hU hx hb hK hM mr_48 hq dmX13_makeJones_109 (fun z13 H locs hM hq => ?_)
          refine lv_iinc (v := (x4 + 1)) (lv' := [(4, .int (x4 + 1)), (0, .ref (u 0)), (1, .ref (u r1)), (2, .int x2), (3, .int x3)]) hx hb dmX13_makeJones_110 hl (k := 4) rfl rfl (by decide) rfl (fun ls hl => ?_)
          refine lv_goto (tgt := 94) hx hb dmX13_makeJones_113 (by decide) ?_
          exact ih_3 x2 x3 (x4 + 1) 0 0 0 0 0 0 0 0 r1 0 0 0 z13 H locs ls hr1 hM (lv_sub hl [1, 2, 3, 4, 0] rfl) hq
      · intro x2 x3 x4 x5 x10 x11 x12 x13 w6 w8 w14 r1 t2 y0 y1 z H locs ls hr1 hM hl hq
        have hq : qm_X13_makeJones_4 K (q_X13_makeJones K k) x2 x3 x4 x5 x10 x11 x12 x13 w6 w8 w14 r1 t2 y0 y1 z = some z1 := hq
        unfold qm_X13_makeJones_4 at hq
        refine lv_iload hx hb dmX13_makeJones_125 (lv_at hl 5 rfl) ?_
        refine lv_bipush (v := 24) hx hb dmX13_makeJones_127 (by decide) ?_
        refine lv_icmp_ge (tgt := 297) hx hb dmX13_makeJones_129 (by decide) (fun hc => ?_) (fun hc => ?_)
        · have hq := tw_it hq hc
          exact mw_vret hx hb hr hlocks hM hq hQQ dmX13_makeJones_297
        · have hq := tw_if hq hc
          refine lv_iload hx hb dmX13_makeJones_132 (lv_at hl 5 rfl) ?_
          refine lv_iconst (v := 1) hx hb dmX13_makeJones_134 (by decide) ?_
          refine lv_isub hx hb dmX13_makeJones_135 ?_
          refine lv_iconst (v := 1) hx hb dmX13_makeJones_136 (by decide) ?_
          refine lv_iand hx hb dmX13_makeJones_137 ?_
          refine lv_if_ne (tgt := 145) hx hb dmX13_makeJones_138 (by decide) (fun hc => ?_) (fun hc => ?_)
          · have hq := tw_if hq hc
            refine lv_ldc2 (v := (-1)) hx hb hown (hT _ wq_303) dmX13_makeJones_145 ?_
            exact ih_5 x2 x3 x4 x5 0 0 0 0 0 0 0 r1 0 (-1) 0 z H locs ls hr1 hM (lv_sub hl [0, 1, 2, 3, 4, 5] rfl) hq
          · have hq := tw_it hq hc
            refine lv_lconst (v := 1) hx hb dmX13_makeJones_141 rfl ?_
            refine lv_goto (tgt := 148) hx hb dmX13_makeJones_142 (by decide) ?_
            exact ih_5 x2 x3 x4 x5 0 0 0 0 0 0 0 r1 0 1 0 z H locs ls hr1 hM (lv_sub hl [0, 1, 2, 3, 4, 5] rfl) hq
      · intro x2 x3 x4 x5 x10 x11 x12 x13 w6 w8 w14 r1 t2 y0 y1 z H locs ls hr1 hM hl hq
        have hq : qm_X13_makeJones_5 K (q_X13_makeJones K k) x2 x3 x4 x5 x10 x11 x12 x13 w6 w8 w14 r1 t2 y0 y1 z = some z1 := hq
        unfold qm_X13_makeJones_5 at hq
        refine lv_lstore (lv' := [(6, .long y0), (0, .ref (u 0)), (1, .ref (u r1)), (2, .int x2), (3, .int x3), (4, .int x4), (5, .int x5)]) hx hb dmX13_makeJones_148 hl (by decide) rfl (fun ls hl => ?_)
        refine lv_lload hx hb dmX13_makeJones_150 (lv_at hl 0 rfl) ?_
        refine lv_lstore (lv' := [(8, .long y0), (6, .long y0), (0, .ref (u 0)), (1, .ref (u r1)), (2, .int x2), (3, .int x3), (4, .int x4), (5, .int x5)]) hx hb dmX13_makeJones_152 hl (by decide) rfl (fun ls hl => ?_)
        refine lv_iconst (v := 0) hx hb dmX13_makeJones_154 (by decide) ?_
        refine lv_istore (lv' := [(10, .int 0), (8, .long y0), (6, .long y0), (0, .ref (u 0)), (1, .ref (u r1)), (2, .int x2), (3, .int x3), (4, .int x4), (5, .int x5)]) hx hb dmX13_makeJones_155 hl (by decide) rfl (fun ls hl => ?_)
        exact ih_6 x2 x3 x4 x5 0 0 0 0 y0 y0 0 r1 0 0 0 z H locs ls hr1 hM (lv_sub hl [3, 4, 5, 6, 7, 8, 2, 1, 0] rfl) hq
      · intro x2 x3 x4 x5 x10 x11 x12 x13 w6 w8 w14 r1 t2 y0 y1 z H locs ls hr1 hM hl hq
        have hq : qm_X13_makeJones_6 K (q_X13_makeJones K k) x2 x3 x4 x5 x10 x11 x12 x13 w6 w8 w14 r1 t2 y0 y1 z = some z1 := hq
        unfold qm_X13_makeJones_6 at hq
        refine lv_iload hx hb dmX13_makeJones_157 (lv_at hl 8 rfl) ?_
        refine lv_iload hx hb dmX13_makeJones_159 (lv_at hl 5 rfl) ?_
        refine lv_icmp_ge (tgt := 291) hx hb dmX13_makeJones_161 (by decide) (fun hc => ?_) (fun hc => ?_)
        · have hq := tw_it hq hc
          refine lv_iinc (v := (x5 + 1)) (lv' := [(5, .int (x5 + 1)), (0, .ref (u 0)), (1, .ref (u r1)), (2, .int x2), (3, .int x3), (4, .int x4), (6, .long w6), (8, .long w8), (10, .int x10)]) hx hb dmX13_makeJones_291 hl (k := 5) rfl rfl (by decide) rfl (fun ls hl => ?_)
          refine lv_goto (tgt := 125) hx hb dmX13_makeJones_294 (by decide) ?_
          exact ih_4 x2 x3 x4 (x5 + 1) 0 0 0 0 0 0 0 r1 0 0 0 z H locs ls hr1 hM (lv_sub hl [1, 2, 3, 4, 5, 0] rfl) hq
        · have hq := tw_if hq hc
          refine lv_iconst (v := 2) hx hb dmX13_makeJones_164 (by decide) ?_
          refine lv_iload hx hb dmX13_makeJones_165 (lv_at hl 5 rfl) ?_
          refine lv_iconst (v := 1) hx hb dmX13_makeJones_167 (by decide) ?_
          refine lv_isub hx hb dmX13_makeJones_168 ?_
          refine lv_imul hx hb dmX13_makeJones_169 ?_
          refine lv_iconst (v := 4) hx hb dmX13_makeJones_170 (by decide) ?_
          refine lv_iload hx hb dmX13_makeJones_171 (lv_at hl 8 rfl) ?_
          refine lv_imul hx hb dmX13_makeJones_173 ?_
          refine lv_isub hx hb dmX13_makeJones_174 ?_
          refine lv_istore (lv' := [(11, .int ((2 * (x5 - 1)) - (4 * x10))), (0, .ref (u 0)), (1, .ref (u r1)), (2, .int x2), (3, .int x3), (4, .int x4), (5, .int x5), (6, .long w6), (8, .long w8), (10, .int x10)]) hx hb dmX13_makeJones_175 hl (by decide) rfl (fun ls hl => ?_)
          refine lv_iconst (v := 0) hx hb dmX13_makeJones_177 (by decide) ?_
          refine lv_istore (lv' := [(12, .int 0), (11, .int ((2 * (x5 - 1)) - (4 * x10))), (0, .ref (u 0)), (1, .ref (u r1)), (2, .int x2), (3, .int x3), (4, .int x4), (5, .int x5), (6, .long w6), (8, .long w8), (10, .int x10)]) hx hb dmX13_makeJones_178 hl (by decide) rfl (fun ls hl => ?_)
          exact ih_7 x2 x3 x4 x5 x10 ((2 * (x5 - 1)) - (4 * x10)) 0 0 w6 w8 0 r1 0 0 0 z H locs ls hr1 hM (lv_sub hl [2, 3, 4, 5, 6, 7, 8, 9, 10, 1, 0] rfl) hq
      · intro x2 x3 x4 x5 x10 x11 x12 x13 w6 w8 w14 r1 t2 y0 y1 z H locs ls hr1 hM hl hq
        have hq : qm_X13_makeJones_7 K (q_X13_makeJones K k) x2 x3 x4 x5 x10 x11 x12 x13 w6 w8 w14 r1 t2 y0 y1 z = some z1 := hq
        unfold qm_X13_makeJones_7 at hq
        refine lv_iload hx hb dmX13_makeJones_180 (lv_at hl 10 rfl) ?_
        refine lv_iload_n hx hb dmX13_makeJones_182 rfl (lv_at hl 2 rfl) ?_
        refine lv_icmp_gt (tgt := 266) hx hb dmX13_makeJones_183 (by decide) (fun hc => ?_) (fun hc => ?_)
        · have hq := tw_it hq hc
          refine lv_lload hx hb dmX13_makeJones_266 (lv_at hl 7 rfl) ?_
          refine lv_iload hx hb dmX13_makeJones_268 (lv_at hl 5 rfl) ?_
          refine lv_iconst (v := 1) hx hb dmX13_makeJones_270 (by decide) ?_
          refine lv_isub hx hb dmX13_makeJones_271 ?_
          refine lv_iload hx hb dmX13_makeJones_272 (lv_at hl 8 rfl) ?_
          refine lv_isub hx hb dmX13_makeJones_274 ?_
          refine lv_i2l hx hb dmX13_makeJones_275 rfl ?_
          refine lv_lmul hx hb dmX13_makeJones_276 ?_
          refine lv_iload hx hb dmX13_makeJones_277 (lv_at hl 8 rfl) ?_
          refine lv_iconst (v := 1) hx hb dmX13_makeJones_279 (by decide) ?_
          refine lv_iadd hx hb dmX13_makeJones_280 ?_
          refine lv_i2l hx hb dmX13_makeJones_281 rfl ?_
          obtain ⟨hz, hq⟩ := tw_nzJ hq
          refine lv_ldiv hx hb dmX13_makeJones_282 hz ?_
          refine lv_lstore (lv' := [(8, .long ((w8 * (((x5 - 1) - x10).toInt64)) / ((x10 + 1).toInt64))), (0, .ref (u 0)), (1, .ref (u r1)), (2, .int x2), (3, .int x3), (4, .int x4), (5, .int x5), (6, .long w6), (10, .int x10), (11, .int x11), (12, .int x12)]) hx hb dmX13_makeJones_283 hl (by decide) rfl (fun ls hl => ?_)
          refine lv_iinc (v := (x10 + 1)) (lv' := [(10, .int (x10 + 1)), (8, .long ((w8 * (((x5 - 1) - x10).toInt64)) / ((x10 + 1).toInt64))), (0, .ref (u 0)), (1, .ref (u r1)), (2, .int x2), (3, .int x3), (4, .int x4), (5, .int x5), (6, .long w6), (11, .int x11), (12, .int x12)]) hx hb dmX13_makeJones_285 hl (k := 8) rfl rfl (by decide) rfl (fun ls hl => ?_)
          refine lv_goto (tgt := 157) hx hb dmX13_makeJones_288 (by decide) ?_
          exact ih_6 x2 x3 x4 x5 (x10 + 1) 0 0 0 w6 ((w8 * (((x5 - 1) - x10).toInt64)) / ((x10 + 1).toInt64)) 0 r1 0 0 0 z H locs ls hr1 hM (lv_sub hl [2, 3, 4, 5, 6, 7, 8, 1, 0] rfl) hq
        · have hq := tw_if hq hc
          refine lv_iload hx hb dmX13_makeJones_186 (lv_at hl 9 rfl) ?_
          refine lv_iload hx hb dmX13_makeJones_188 (lv_at hl 10 rfl) ?_
          refine lv_iadd hx hb dmX13_makeJones_190 ?_
          refine lv_iload_n hx hb dmX13_makeJones_191 rfl (lv_at hl 2 rfl) ?_
          refine lv_iload hx hb dmX13_makeJones_192 (lv_at hl 10 rfl) ?_
          refine lv_isub hx hb dmX13_makeJones_194 ?_
          refine lv_isub hx hb dmX13_makeJones_195 ?_
          refine lv_iconst (v := 3) hx hb dmX13_makeJones_196 (by decide) ?_
          refine lv_iload hx hb dmX13_makeJones_197 (lv_at hl 4 rfl) ?_
          refine lv_imul hx hb dmX13_makeJones_199 ?_
          refine lv_isub hx hb dmX13_makeJones_200 ?_
          refine lv_istore (lv' := [(13, .int (((x11 + x12) - (x2 - x12)) - (3 * x4))), (0, .ref (u 0)), (1, .ref (u r1)), (2, .int x2), (3, .int x3), (4, .int x4), (5, .int x5), (6, .long w6), (8, .long w8), (10, .int x10), (11, .int x11), (12, .int x12)]) hx hb dmX13_makeJones_201 hl (by decide) rfl (fun ls hl => ?_)
          refine lv_aload_n hx hb dmX13_makeJones_203 rfl (lv_at hl 1 rfl) ?_
          refine mg13_211 hx hb hT hown hK hM dmX13_makeJones_204 ?_
          refine lv_bipush (v := 24) hx hb dmX13_makeJones_207 (by decide) ?_
          refine lv_iload hx hb dmX13_makeJones_209 (lv_at hl 11 rfl) ?_
          refine lv_imul hx hb dmX13_makeJones_211 ?_
          refine lv_iload hx hb dmX13_makeJones_212 (lv_at hl 6 rfl) ?_
          refine lv_iadd hx hb dmX13_makeJones_214 ?_
          refine tw_lald mX_ok hx hb hK hM mr_51 hq dmX13_makeJones_215 (fun v14 hq => ?_)
          refine lv_lstore (lv' := [(14, .long v14), (13, .int (((x11 + x12) - (x2 - x12)) - (3 * x4))), (0, .ref (u 0)), (1, .ref (u r1)), (2, .int x2), (3, .int x3), (4, .int x4), (5, .int x5), (6, .long w6), (8, .long w8), (10, .int x10), (11, .int x11), (12, .int x12)]) hx hb dmX13_makeJones_216 hl (by decide) rfl (fun ls hl => ?_)
          refine lv_lload hx hb dmX13_makeJones_218 (lv_at hl 0 rfl) ?_
          refine lv_lconst (v := 0) hx hb dmX13_makeJones_220 rfl ?_
          refine W.lcmp hx hb dmX13_makeJones_221 ?_
          refine lv_if_eq (tgt := 260) hx hb dmX13_makeJones_222 (by decide) (fun hc => ?_) (fun hc => ?_)
          · have hq := tw_it hq hc
            exact ih_9 x2 x3 x4 x5 x10 x11 x12 (((x11 + x12) - (x2 - x12)) - (3 * x4)) w6 w8 v14 r1 0 0 0 z H locs ls hr1 hM (lv_sub hl [2, 3, 4, 5, 6, 7, 8, 9, 10, 11, 12, 1, 0] rfl) hq
          · have hq := tw_if hq hc
            refine lv_aload_n hx hb dmX13_makeJones_225 rfl (lv_at hl 2 rfl) ?_
            refine mg13_202 hx hb hT hown hK hM dmX13_makeJones_226 ?_
            refine lv_iload hx hb dmX13_makeJones_229 (lv_at hl 1 rfl) ?_
            refine lv_bipush (v := 100) hx hb dmX13_makeJones_231 (by decide) ?_
            refine lv_iadd hx hb dmX13_makeJones_233 ?_
            refine lv_dup2_11 hx hb dmX13_makeJones_234 rfl rfl ?_
            refine tw_lald mX_ok hx hb hK hM mr_48 hq dmX13_makeJones_235 (fun v15 hq => ?_)
            refine lv_iload hx hb dmX13_makeJones_236 (lv_at hl 6 rfl) ?_
            refine lv_iconst (v := 1) hx hb dmX13_makeJones_238 (by decide) ?_
            refine lv_iand hx hb dmX13_makeJones_239 ?_
            refine lv_if_ne (tgt := 251) hx hb dmX13_makeJones_240 (by decide) (fun hc => ?_) (fun hc => ?_)
            · have hq := tw_if hq hc
              refine lv_lconst (v := 0) hx hb dmX13_makeJones_251 rfl ?_
              refine lv_lload hx hb dmX13_makeJones_252 (lv_at hl 0 rfl) ?_
              refine lv_lload hx hb dmX13_makeJones_254 (lv_at hl 9 rfl) ?_
              refine lv_lmul hx hb dmX13_makeJones_256 ?_
              refine lv_lsub hx hb dmX13_makeJones_257 ?_
              exact ih_8 x2 x3 x4 x5 x10 x11 x12 (((x11 + x12) - (x2 - x12)) - (3 * x4)) w6 w8 v14 r1 ((((x11 + x12) - (x2 - x12)) - (3 * x4)) + 100) (0 - (v14 * w8)) v15 z H locs ls hr1 hM (lv_sub hl [2, 3, 4, 5, 6, 7, 8, 9, 10, 11, 12, 1, 0] rfl) hq
            · have hq := tw_it hq hc
              refine lv_lload hx hb dmX13_makeJones_243 (lv_at hl 0 rfl) ?_
              refine lv_lload hx hb dmX13_makeJones_245 (lv_at hl 9 rfl) ?_
              refine lv_lmul hx hb dmX13_makeJones_247 ?_
              refine lv_goto (tgt := 258) hx hb dmX13_makeJones_248 (by decide) ?_
              exact ih_8 x2 x3 x4 x5 x10 x11 x12 (((x11 + x12) - (x2 - x12)) - (3 * x4)) w6 w8 v14 r1 ((((x11 + x12) - (x2 - x12)) - (3 * x4)) + 100) (v14 * w8) v15 z H locs ls hr1 hM (lv_sub hl [2, 3, 4, 5, 6, 7, 8, 9, 10, 11, 12, 1, 0] rfl) hq
      · intro x2 x3 x4 x5 x10 x11 x12 x13 w6 w8 w14 r1 t2 y0 y1 z H locs ls hr1 hM hl hq
        have hq : qm_X13_makeJones_8 K (q_X13_makeJones K k) x2 x3 x4 x5 x10 x11 x12 x13 w6 w8 w14 r1 t2 y0 y1 z = some z1 := hq
        unfold qm_X13_makeJones_8 at hq
        refine lv_ladd hx hb dmX13_makeJones_258 ?_
        refine tw_last mX_ok hU hx hb hK hM mr_48 hq dmX13_makeJones_259 (fun z16 H locs hM hq => ?_)
        exact ih_9 x2 x3 x4 x5 x10 x11 x12 x13 w6 w8 w14 r1 0 0 0 z16 H locs ls hr1 hM (lv_sub hl [0, 1, 2, 3, 4, 5, 6, 7, 8, 9, 10, 11, 12] rfl) hq
      · intro x2 x3 x4 x5 x10 x11 x12 x13 w6 w8 w14 r1 t2 y0 y1 z H locs ls hr1 hM hl hq
        have hq : qm_X13_makeJones_9 K (q_X13_makeJones K k) x2 x3 x4 x5 x10 x11 x12 x13 w6 w8 w14 r1 t2 y0 y1 z = some z1 := hq
        unfold qm_X13_makeJones_9 at hq
        refine lv_iinc (v := (x12 + 1)) (lv' := [(12, .int (x12 + 1)), (0, .ref (u 0)), (1, .ref (u r1)), (2, .int x2), (3, .int x3), (4, .int x4), (5, .int x5), (6, .long w6), (8, .long w8), (10, .int x10), (11, .int x11), (13, .int x13), (14, .long w14)]) hx hb dmX13_makeJones_260 hl (k := 10) rfl rfl (by decide) rfl (fun ls hl => ?_)
        refine lv_goto (tgt := 180) hx hb dmX13_makeJones_263 (by decide) ?_
        exact ih_7 x2 x3 x4 x5 x10 x11 (x12 + 1) 0 w6 w8 0 r1 0 0 0 z H locs ls hr1 hM (lv_sub hl [1, 2, 3, 4, 5, 6, 7, 8, 9, 10, 0] rfl) hq
  exact (key K).1 0 0 0 0 0 0 0 0 0 0 0 r1 0 0 0 z s.heap [] ls hr1 hM (lv_sub hl [0, 1] rfl) hq
theorem dmX13_jones_0 : decode cX13_jones 0 = .ok (.aload_n 0, 1) := dw_at cX13_jones_k0 (p := 0) rfl (by decide +kernel)
theorem dmX13_jones_1 : decode cX13_jones 1 = .ok (.iconst 0, 1) := dw_at cX13_jones_k0 (p := 1) rfl (by decide +kernel)
theorem dmX13_jones_2 : decode cX13_jones 2 = .ok (.putfield 1, 3) := dw_at cX13_jones_k0 (p := 2) rfl (by decide +kernel)
theorem dmX13_jones_5 : decode cX13_jones 5 = .ok (.aload_n 0, 1) := dw_at cX13_jones_k0 (p := 5) rfl (by decide +kernel)
theorem dmX13_jones_6 : decode cX13_jones 6 = .ok (.iload_n 1, 1) := dw_at cX13_jones_k0 (p := 6) rfl (by decide +kernel)
theorem dmX13_jones_7 : decode cX13_jones 7 = .ok (.invokevirtual 423, 3) := dw_at cX13_jones_k0 (p := 7) rfl (by decide +kernel)
theorem dmX13_jones_10 : decode cX13_jones 10 = .ok (.ifCond .ne 9, 3) := dw_at cX13_jones_k0 (p := 10) rfl (by decide +kernel)
theorem dmX13_jones_13 : decode cX13_jones 13 = .ok (.aload_n 0, 1) := dw_at cX13_jones_k0 (p := 13) rfl (by decide +kernel)
theorem dmX13_jones_14 : decode cX13_jones 14 = .ok (.iconst 1, 1) := dw_at cX13_jones_k0 (p := 14) rfl (by decide +kernel)
theorem dmX13_jones_15 : decode cX13_jones 15 = .ok (.invokevirtual 403, 3) := dw_at cX13_jones_k0 (p := 15) rfl (by decide +kernel)
theorem dmX13_jones_18 : decode cX13_jones 18 = .ok (.ireturn, 1) := dw_at cX13_jones_k0 (p := 18) rfl (by decide +kernel)
theorem dmX13_jones_19 : decode cX13_jones 19 = .ok (.aload_n 0, 1) := dw_at cX13_jones_k0 (p := 19) rfl (by decide +kernel)
theorem dmX13_jones_20 : decode cX13_jones 20 = .ok (.getfield 110, 3) := dw_at cX13_jones_k0 (p := 20) rfl (by decide +kernel)
theorem dmX13_jones_23 : decode cX13_jones 23 = .ok (.bipush 32, 2) := dw_at cX13_jones_k0 (p := 23) rfl (by decide +kernel)
theorem dmX13_jones_25 : decode cX13_jones 25 = .ok (.iload_n 1, 1) := dw_at cX13_jones_k1 (p := 0) rfl (by decide +kernel)
theorem dmX13_jones_26 : decode cX13_jones 26 = .ok (.imul, 1) := dw_at cX13_jones_k1 (p := 1) rfl (by decide +kernel)
theorem dmX13_jones_27 : decode cX13_jones 27 = .ok (.aload_n 0, 1) := dw_at cX13_jones_k1 (p := 2) rfl (by decide +kernel)
theorem dmX13_jones_28 : decode cX13_jones 28 = .ok (.getfield 208, 3) := dw_at cX13_jones_k1 (p := 3) rfl (by decide +kernel)
theorem dmX13_jones_31 : decode cX13_jones 31 = .ok (.iconst 0, 1) := dw_at cX13_jones_k1 (p := 6) rfl (by decide +kernel)
theorem dmX13_jones_32 : decode cX13_jones 32 = .ok (.invokestatic 445, 3) := dw_at cX13_jones_k1 (p := 7) rfl (by decide +kernel)
theorem dmX13_jones_35 : decode cX13_jones 35 = .ok (.ifCond .ne 51, 3) := dw_at cX13_jones_k1 (p := 10) rfl (by decide +kernel)
theorem dmX13_jones_38 : decode cX13_jones 38 = .ok (.aload_n 0, 1) := dw_at cX13_jones_k1 (p := 13) rfl (by decide +kernel)
theorem dmX13_jones_39 : decode cX13_jones 39 = .ok (.iload_n 1, 1) := dw_at cX13_jones_k1 (p := 14) rfl (by decide +kernel)
theorem dmX13_jones_40 : decode cX13_jones 40 = .ok (.aload_n 0, 1) := dw_at cX13_jones_k1 (p := 15) rfl (by decide +kernel)
theorem dmX13_jones_41 : decode cX13_jones 41 = .ok (.getfield 114, 3) := dw_at cX13_jones_k1 (p := 16) rfl (by decide +kernel)
theorem dmX13_jones_44 : decode cX13_jones 44 = .ok (.invokevirtual 434, 3) := dw_at cX13_jones_k1 (p := 19) rfl (by decide +kernel)
theorem dmX13_jones_47 : decode cX13_jones 47 = .ok (.aload_n 0, 1) := dw_at cX13_jones_k1 (p := 22) rfl (by decide +kernel)
theorem dmX13_jones_48 : decode cX13_jones 48 = .ok (.aload_n 0, 1) := dw_at cX13_jones_k1 (p := 23) rfl (by decide +kernel)
theorem dmX13_jones_49 : decode cX13_jones 49 = .ok (.getfield 114, 3) := dw_at cX13_jones_k2 (p := 0) rfl (by decide +kernel)
theorem dmX13_jones_52 : decode cX13_jones 52 = .ok (.invokevirtual 600, 3) := dw_at cX13_jones_k2 (p := 3) rfl (by decide +kernel)
theorem dmX13_jones_55 : decode cX13_jones 55 = .ok (.iconst 0, 1) := dw_at cX13_jones_k2 (p := 6) rfl (by decide +kernel)
theorem dmX13_jones_56 : decode cX13_jones 56 = .ok (.istore_n 3, 1) := dw_at cX13_jones_k2 (p := 7) rfl (by decide +kernel)
theorem dmX13_jones_57 : decode cX13_jones 57 = .ok (.iload_n 3, 1) := dw_at cX13_jones_k2 (p := 8) rfl (by decide +kernel)
theorem dmX13_jones_58 : decode cX13_jones 58 = .ok (.bipush 32, 2) := dw_at cX13_jones_k2 (p := 9) rfl (by decide +kernel)
theorem dmX13_jones_60 : decode cX13_jones 60 = .ok (.if_icmp .ge 26, 3) := dw_at cX13_jones_k2 (p := 11) rfl (by decide +kernel)
theorem dmX13_jones_63 : decode cX13_jones 63 = .ok (.aload_n 0, 1) := dw_at cX13_jones_k2 (p := 14) rfl (by decide +kernel)
theorem dmX13_jones_64 : decode cX13_jones 64 = .ok (.getfield 208, 3) := dw_at cX13_jones_k2 (p := 15) rfl (by decide +kernel)
theorem dmX13_jones_67 : decode cX13_jones 67 = .ok (.iload_n 3, 1) := dw_at cX13_jones_k2 (p := 18) rfl (by decide +kernel)
theorem dmX13_jones_68 : decode cX13_jones 68 = .ok (.aload_n 0, 1) := dw_at cX13_jones_k2 (p := 19) rfl (by decide +kernel)
theorem dmX13_jones_69 : decode cX13_jones 69 = .ok (.getfield 110, 3) := dw_at cX13_jones_k2 (p := 20) rfl (by decide +kernel)
theorem dmX13_jones_72 : decode cX13_jones 72 = .ok (.bipush 32, 2) := dw_at cX13_jones_k2 (p := 23) rfl (by decide +kernel)
theorem dmX13_jones_74 : decode cX13_jones 74 = .ok (.iload_n 1, 1) := dw_at cX13_jones_k3 (p := 0) rfl (by decide +kernel)
theorem dmX13_jones_75 : decode cX13_jones 75 = .ok (.imul, 1) := dw_at cX13_jones_k3 (p := 1) rfl (by decide +kernel)
theorem dmX13_jones_76 : decode cX13_jones 76 = .ok (.iload_n 3, 1) := dw_at cX13_jones_k3 (p := 2) rfl (by decide +kernel)
theorem dmX13_jones_77 : decode cX13_jones 77 = .ok (.iadd, 1) := dw_at cX13_jones_k3 (p := 3) rfl (by decide +kernel)
theorem dmX13_jones_78 : decode cX13_jones 78 = .ok (.iaload, 1) := dw_at cX13_jones_k3 (p := 4) rfl (by decide +kernel)
theorem dmX13_jones_79 : decode cX13_jones 79 = .ok (.iastore, 1) := dw_at cX13_jones_k3 (p := 5) rfl (by decide +kernel)
theorem dmX13_jones_80 : decode cX13_jones 80 = .ok (.iinc 3 1, 3) := dw_at cX13_jones_k3 (p := 6) rfl (by decide +kernel)
theorem dmX13_jones_83 : decode cX13_jones 83 = .ok (.goto (-26), 3) := dw_at cX13_jones_k3 (p := 9) rfl (by decide +kernel)
theorem dmX13_jones_86 : decode cX13_jones 86 = .ok (.iload_n 2, 1) := dw_at cX13_jones_k3 (p := 12) rfl (by decide +kernel)
theorem dmX13_jones_87 : decode cX13_jones 87 = .ok (.bipush (-100), 2) := dw_at cX13_jones_k3 (p := 13) rfl (by decide +kernel)
theorem dmX13_jones_89 : decode cX13_jones 89 = .ok (.if_icmp .lt 9, 3) := dw_at cX13_jones_k3 (p := 15) rfl (by decide +kernel)
theorem dmX13_jones_92 : decode cX13_jones 92 = .ok (.iload_n 2, 1) := dw_at cX13_jones_k3 (p := 18) rfl (by decide +kernel)
theorem dmX13_jones_93 : decode cX13_jones 93 = .ok (.bipush 100, 2) := dw_at cX13_jones_k3 (p := 19) rfl (by decide +kernel)
theorem dmX13_jones_95 : decode cX13_jones 95 = .ok (.if_icmp .le 7, 3) := dw_at cX13_jones_k3 (p := 21) rfl (by decide +kernel)
theorem dmX13_jones_98 : decode cX13_jones 98 = .ok (.iconst 0, 1) := dw_at cX13_jones_k4 (p := 0) rfl (by decide +kernel)
theorem dmX13_jones_99 : decode cX13_jones 99 = .ok (.goto 13, 3) := dw_at cX13_jones_k4 (p := 1) rfl (by decide +kernel)
theorem dmX13_jones_102 : decode cX13_jones 102 = .ok (.aload_n 0, 1) := dw_at cX13_jones_k4 (p := 4) rfl (by decide +kernel)
theorem dmX13_jones_103 : decode cX13_jones 103 = .ok (.getfield 202, 3) := dw_at cX13_jones_k4 (p := 5) rfl (by decide +kernel)
theorem dmX13_jones_106 : decode cX13_jones 106 = .ok (.iload_n 2, 1) := dw_at cX13_jones_k4 (p := 8) rfl (by decide +kernel)
theorem dmX13_jones_107 : decode cX13_jones 107 = .ok (.bipush 100, 2) := dw_at cX13_jones_k4 (p := 9) rfl (by decide +kernel)
theorem dmX13_jones_109 : decode cX13_jones 109 = .ok (.iadd, 1) := dw_at cX13_jones_k4 (p := 11) rfl (by decide +kernel)
theorem dmX13_jones_110 : decode cX13_jones 110 = .ok (.laload, 1) := dw_at cX13_jones_k4 (p := 12) rfl (by decide +kernel)
theorem dmX13_jones_111 : decode cX13_jones 111 = .ok (.l2i, 1) := dw_at cX13_jones_k4 (p := 13) rfl (by decide +kernel)
theorem dmX13_jones_112 : decode cX13_jones 112 = .ok (.ireturn, 1) := dw_at cX13_jones_k4 (p := 14) rfl (by decide +kernel)
def qm_X13_jones_0 (K : Nat) (go : Nat → Int32 → Int32 → Int32 → ow_MS → Option (Int32 × ow_MS)) (x1 : Int32) (x2 : Int32) (x3 : Int32) (z : ow_MS) : Option (Int32 × ow_MS) :=
 wrF z 1 0 fun z1 => cs1 (qe_X13_has K x1 z1) fun v3 z2 => (if v3 = 0 then cs1 (qe_X13_fails K 1 z2) fun v9 z8 => some (v9, z8)
 else cs1 (qe_X13_isSame K 12 (32 * x1) 50 0 z2) fun v5 z4 => (if v5 = 0 then cs0 (qe_X13_open K x1 1000 z4) fun z6 => cs0 (qe_X13_makeJones K 1000 z6) fun z7 => go 1 x1 x2 0 z7
 else go 2 x1 x2 0 z4))
def qm_X13_jones_1 (K : Nat) (go : Nat → Int32 → Int32 → Int32 → ow_MS → Option (Int32 × ow_MS)) (x1 : Int32) (x2 : Int32) (x3 : Int32) (z : ow_MS) : Option (Int32 × ow_MS) :=
 (if 32 ≤ x3 then go 2 x1 x2 0 z
 else rdI mX z 12 ((32 * x1) + x3) fun v10 => wrI mX z 50 x3 v10 fun z11 => go 1 x1 x2 (x3 + 1) z11)
def qm_X13_jones_2 (K : Nat) (go : Nat → Int32 → Int32 → Int32 → ow_MS → Option (Int32 × ow_MS)) (x1 : Int32) (x2 : Int32) (x3 : Int32) (z : ow_MS) : Option (Int32 × ow_MS) :=
 (if x2 < (-100) then go 3 x1 x2 0 z
 else (if x2 ≤ 100 then rdJ mX z 48 (x2 + 100) fun v12 => some (v12.toInt32, z)
 else go 3 x1 x2 0 z))
def qm_X13_jones_3 (K : Nat) (go : Nat → Int32 → Int32 → Int32 → ow_MS → Option (Int32 × ow_MS)) (x1 : Int32) (x2 : Int32) (x3 : Int32) (z : ow_MS) : Option (Int32 × ow_MS) :=
 some (0, z)
def qb_X13_jones (K : Nat) (go : Nat → Int32 → Int32 → Int32 → ow_MS → Option (Int32 × ow_MS)) (L : Nat) (x1 : Int32) (x2 : Int32) (x3 : Int32) (z : ow_MS) : Option (Int32 × ow_MS) := match L with
  | 0 => qm_X13_jones_0 K go x1 x2 x3 z
  | 1 => qm_X13_jones_1 K go x1 x2 x3 z
  | 2 => qm_X13_jones_2 K go x1 x2 x3 z
  | 3 => qm_X13_jones_3 K go x1 x2 x3 z
  | _ => none
def q_X13_jones (K : Nat) : Nat → Nat → Int32 → Int32 → Int32 → ow_MS → Option (Int32 × ow_MS)
  | 0 => fun _ _ _ _ _ => none
  | k + 1 => qb_X13_jones K (q_X13_jones K k)
def qe_X13_jones (K : Nat) (x1 : Int32) (x2 : Int32) (z : ow_MS) : Option (Int32 × ow_MS) := q_X13_jones K K 0 x1 x2 0 z
abbrev wm_X13_jones : List Cond := .code yX13_jones cX13_jones 4 (some .int) :: wM
theorem cd_X13_jones : yX13_jones.cls = RX13 ∧ yX13_jones.cls ≠ "java/lang/invoke/MethodHandle" ∧ yX13_jones.cls ≠ "java/lang/invoke/VarHandle" ∧ (parseMethodDescriptor yX13_jones.desc).map (fun d => d.parameters.length) = some 2 := by decide +kernel
set_option maxHeartbeats 4000000 in
set_option maxRecDepth 100000 in
theorem km_X13_jones (l : Launch) (D : va_G) (q : ow_Q5) (u : Nat → Nat) (hU : tw_inj mX u) (K : Nat) (x1 : Int32) (x2 : Int32)  (z z1 : ow_MS) (r : Int32) (hq : qe_X13_jones K x1 x2 z = some (r, z1)) : Met l yX13_jones wm_X13_jones ({ frames := 4, cells := 0, slots := 0, locals := 106 } : Room) (va_Pc [.ref (u 0), .int x1, .int x2] (mw_pre D q u z)) (va_Qi (fun x (_ : Unit) => x = r) (fun _ t => va_P D vwCl (tw mX q u z1) t.heap) (tw_A mX u)) 0 0 (tw_A mX u) := by
  refine Met.ofW (cc := cX13_jones) (maxL := 4) (ret := (some .int)) (by decide) rfl ?_
  intro p e s m args below meth c s₁ B hml hv
  obtain ⟨rfl, hP, hK, hN⟩ := hv
  have hx := B.exec
  have hb := B.bytes
  have hr := B.returns
  have hts := atoms_spec (ws := wm_X13_jones) B.pre
  have hT : ∀ w ∈ wM, w.before ([.ref (u 0), .int x1, .int x2] : List Value).toArray s = true := fun w h => hts w (List.mem_cons_of_mem _ h)
  have hown : s.vm.findClass RX13 = some m.cls := findClass_of_methodNamed B.named
  have hlocks := B.notSynchronized
  have hM : tw_M D vwCl mX q s.heap u z s.heap [] := ⟨hP, va_S.rf⟩
  have hl := lv_entry ([.ref (u 0), .int x1, .int x2]) (n := 4) (Nat.le_of_ble_eq_true rfl)
  rw [lg_entry_eq]
  generalize (lg_sl ([.ref (u 0), .int x1, .int x2]) ++ List.replicate (4 - (lg_sl ([.ref (u 0), .int x1, .int x2])).length) Slot.unset).toArray = ls at hl ⊢
  have hl : lv_has ls 4 [(0, .ref (u 0)), (1, .int x1), (2, .int x2)] := hl
  refine ow_named (fun QQ hQQ => ?_)
  generalize ([.ref (u 0), .int x1, .int x2] : List Value).toArray = args at hts hT hQQ ⊢
  have key : ∀ k : Nat, (∀ (x1 : Int32) (x2 : Int32) (x3 : Int32) (z : ow_MS) (H : Heap) (locs : List Loc) (ls : Array Slot), tw_M D vwCl mX q s.heap u z H locs → lv_has ls 4 [(0, .ref (u 0)), (1, .int x1), (2, .int x2)] → q_X13_jones K k 0 x1 x2 x3 z = some (r, z1) → W p l e ({ frames := 4, cells := 0, slots := 0, locals := 106 } : Room) s m args below meth c H locs 0 0 QQ (F0 m 0 ls [])) ∧ (∀ (x1 : Int32) (x2 : Int32) (x3 : Int32) (z : ow_MS) (H : Heap) (locs : List Loc) (ls : Array Slot), tw_M D vwCl mX q s.heap u z H locs → lv_has ls 4 [(0, .ref (u 0)), (1, .int x1), (2, .int x2), (3, .int x3)] → q_X13_jones K k 1 x1 x2 x3 z = some (r, z1) → W p l e ({ frames := 4, cells := 0, slots := 0, locals := 106 } : Room) s m args below meth c H locs 0 0 QQ (F0 m 57 ls [])) ∧ (∀ (x1 : Int32) (x2 : Int32) (x3 : Int32) (z : ow_MS) (H : Heap) (locs : List Loc) (ls : Array Slot), tw_M D vwCl mX q s.heap u z H locs → lv_has ls 4 [(0, .ref (u 0)), (1, .int x1), (2, .int x2)] → q_X13_jones K k 2 x1 x2 x3 z = some (r, z1) → W p l e ({ frames := 4, cells := 0, slots := 0, locals := 106 } : Room) s m args below meth c H locs 0 0 QQ (F0 m 86 ls [])) ∧ (∀ (x1 : Int32) (x2 : Int32) (x3 : Int32) (z : ow_MS) (H : Heap) (locs : List Loc) (ls : Array Slot), tw_M D vwCl mX q s.heap u z H locs → lv_has ls 4 [(0, .ref (u 0)), (1, .int x1), (2, .int x2)] → q_X13_jones K k 3 x1 x2 x3 z = some (r, z1) → W p l e ({ frames := 4, cells := 0, slots := 0, locals := 106 } : Room) s m args below meth c H locs 0 0 QQ (F0 m 98 ls [])) := by
    intro k
    induction k with
    | zero => exact ⟨fun _ _ _ _ _ _ _  _ _ hq => tw_no hq, fun _ _ _ _ _ _ _  _ _ hq => tw_no hq, fun _ _ _ _ _ _ _  _ _ hq => tw_no hq, fun _ _ _ _ _ _ _  _ _ hq => tw_no hq⟩
    | succ k ih =>
      obtain ⟨ih_0, ih_1, ih_2, ih_3⟩ := ih
      refine ⟨?_, ?_, ?_, ?_⟩
      · intro x1 x2 x3 z H locs ls  hM hl hq
        have hq : qm_X13_jones_0 K (q_X13_jones K k) x1 x2 x3 z = some (r, z1) := hq
        unfold qm_X13_jones_0 at hq
        refine lv_aload_n hx hb dmX13_jones_0 rfl (lv_at hl 0 rfl) ?_
        refine lv_iconst (v := 0) hx hb dmX13_jones_1 (by decide) ?_
        refine mp13_1 hx hb hT hown hK hM hU hq dmX13_jones_2 (fun z1 H locs hM hq => ?_)
        refine lv_aload_n hx hb dmX13_jones_5 rfl (lv_at hl 0 rfl) ?_
        refine lv_iload_n hx hb dmX13_jones_6 rfl (lv_at hl 1 rfl) ?_
        obtain ⟨v3, z2, hcq, hq⟩ := tw_cl1 hq
        refine tw_cali hM (va_runV (As := [.int x1]) (rest := []) ⟨hx, hb, hml, hown, hts⟩ (km_X13_has l D q u hU K x1 z1 z2 v3 hcq) (cwV 1 hts (tw_gV wM_good wq_127 wq_128 wq_129 wq_61 wq_90) rfl rfl rfl cd_X13_has ⟨(Nat.le_of_ble_eq_true rfl), (Nat.le_of_ble_eq_true rfl)⟩) (mw_preV hK hN hM mo_0 rfl) rfl rfl hl.1 rfl (lv_room (Nat.le_of_ble_eq_true rfl)) dmX13_jones_7 ⟨(Nat.le_of_ble_eq_true rfl), (Nat.le_of_ble_eq_true rfl)⟩) (fun H locs hM => ?_)
        refine lv_if_ne (tgt := 19) hx hb dmX13_jones_10 (by decide) (fun hc => ?_) (fun hc => ?_)
        · have hq := tw_if hq hc
          refine lv_aload_n hx hb dmX13_jones_19 rfl (lv_at hl 0 rfl) ?_
          refine mg13_110 hx hb hT hown hK hM dmX13_jones_20 ?_
          refine lv_bipush (v := 32) hx hb dmX13_jones_23 (by decide) ?_
          refine lv_iload_n hx hb dmX13_jones_25 rfl (lv_at hl 1 rfl) ?_
          refine lv_imul hx hb dmX13_jones_26 ?_
          refine lv_aload_n hx hb dmX13_jones_27 rfl (lv_at hl 0 rfl) ?_
          refine mg13_208 hx hb hT hown hK hM dmX13_jones_28 ?_
          refine lv_iconst (v := 0) hx hb dmX13_jones_31 (by decide) ?_
          obtain ⟨v5, z4, hcq, hq⟩ := tw_cl1 hq
          refine tw_cali hM (va_runS (As := [.ref (u 12), .int (32 * x1), .ref (u 50), .int 0]) (rest := []) ⟨hx, hb, hml, hown, hts⟩ (km_X13_isSame l D q u hU K 12 (32 * x1) 50 0 mr_12 mr_50 z2 z4 v5 hcq) (va_cwS 4 hts (tw_gS wM_good wq_149 wq_150 wq_61 wq_74) rfl rfl rfl cd_X13_isSame ⟨(Nat.le_of_ble_eq_true rfl), (Nat.le_of_ble_eq_true rfl)⟩) (mw_preS hK hN hM) rfl rfl hl.1 rfl (lv_room (Nat.le_of_ble_eq_true rfl)) dmX13_jones_32 ⟨(Nat.le_of_ble_eq_true rfl), (Nat.le_of_ble_eq_true rfl)⟩) (fun H locs hM => ?_)
          refine lv_if_ne (tgt := 86) hx hb dmX13_jones_35 (by decide) (fun hc => ?_) (fun hc => ?_)
          · have hq := tw_if hq hc
            exact ih_2 x1 x2 0 z4 H locs ls hM (lv_sub hl [0, 1, 2] rfl) hq
          · have hq := tw_it hq hc
            refine lv_aload_n hx hb dmX13_jones_38 rfl (lv_at hl 0 rfl) ?_
            refine lv_iload_n hx hb dmX13_jones_39 rfl (lv_at hl 1 rfl) ?_
            refine lv_aload_n hx hb dmX13_jones_40 rfl (lv_at hl 0 rfl) ?_
            refine mg13_114 hx hb hT hown hK hM dmX13_jones_41 ?_
            obtain ⟨z6, hcq, hq⟩ := tw_cl0 hq
            refine tw_calv hM (va_runV (As := [.int x1, .ref (u 1000)]) (rest := []) ⟨hx, hb, hml, hown, hts⟩ (km_X13_open l D q u hU K x1 1000 mw_n1 z4 z6 hcq) (cwV 2 hts (tw_gV wM_good wq_138 wq_139 wq_140 wq_61 wq_136) rfl rfl rfl cd_X13_open ⟨(Nat.le_of_ble_eq_true rfl), (Nat.le_of_ble_eq_true rfl)⟩) (mw_preV hK hN hM mo_0 rfl) rfl rfl hl.1 rfl (lv_room (Nat.le_of_ble_eq_true rfl)) dmX13_jones_44 ⟨(Nat.le_of_ble_eq_true rfl), (Nat.le_of_ble_eq_true rfl)⟩) (fun H locs hM => ?_)
            refine lv_aload_n hx hb dmX13_jones_47 rfl (lv_at hl 0 rfl) ?_
            refine lv_aload_n hx hb dmX13_jones_48 rfl (lv_at hl 0 rfl) ?_
            refine mg13_114 hx hb hT hown hK hM dmX13_jones_49 ?_
            obtain ⟨z7, hcq, hq⟩ := tw_cl0 hq
            refine tw_calv hM (va_runV (As := [.ref (u 1000)]) (rest := []) ⟨hx, hb, hml, hown, hts⟩ (km_X13_makeJones l D q u hU K 1000 mw_n1 z6 z7 hcq) (cwV 1 hts (tw_gV wM_good wq_319 wq_320 wq_321 wq_61 wq_317) rfl rfl rfl cd_X13_makeJones ⟨(Nat.le_of_ble_eq_true rfl), (Nat.le_of_ble_eq_true rfl)⟩) (mw_preV hK hN hM mo_0 rfl) rfl rfl hl.1 rfl (lv_room (Nat.le_of_ble_eq_true rfl)) dmX13_jones_52 ⟨(Nat.le_of_ble_eq_true rfl), (Nat.le_of_ble_eq_true rfl)⟩) (fun H locs hM => ?_)
            refine lv_iconst (v := 0) hx hb dmX13_jones_55 (by decide) ?_
            refine lv_istore_n (lv' := [(3, .int 0), (0, .ref (u 0)), (1, .int x1), (2, .int x2)]) hx hb dmX13_jones_56 rfl hl (by decide) rfl (fun ls hl => ?_)
            exact ih_1 x1 x2 0 z7 H locs ls hM (lv_sub hl [1, 2, 3, 0] rfl) hq
        · have hq := tw_it hq hc
          refine lv_aload_n hx hb dmX13_jones_13 rfl (lv_at hl 0 rfl) ?_
          refine lv_iconst (v := 1) hx hb dmX13_jones_14 (by decide) ?_
          obtain ⟨v9, z8, hcq, hq⟩ := tw_cl1 hq
          refine tw_cali hM (va_runV (As := [.int 1]) (rest := []) ⟨hx, hb, hml, hown, hts⟩ (km_X13_fails l D q u hU K 1 z2 z8 v9 hcq) (cwV 1 hts (tw_gV wM_good wq_103 wq_104 wq_105 wq_61 wq_50) rfl rfl rfl cd_X13_fails ⟨(Nat.le_of_ble_eq_true rfl), (Nat.le_of_ble_eq_true rfl)⟩) (mw_preV hK hN hM mo_0 rfl) rfl rfl hl.1 rfl (lv_room (Nat.le_of_ble_eq_true rfl)) dmX13_jones_15 ⟨(Nat.le_of_ble_eq_true rfl), (Nat.le_of_ble_eq_true rfl)⟩) (fun H locs hM => ?_)
          exact mw_iret hx hb hr hlocks hM hq hQQ dmX13_jones_18
      · intro x1 x2 x3 z H locs ls  hM hl hq
        have hq : qm_X13_jones_1 K (q_X13_jones K k) x1 x2 x3 z = some (r, z1) := hq
        unfold qm_X13_jones_1 at hq
        refine lv_iload_n hx hb dmX13_jones_57 rfl (lv_at hl 3 rfl) ?_
        refine lv_bipush (v := 32) hx hb dmX13_jones_58 (by decide) ?_
        refine lv_icmp_ge (tgt := 86) hx hb dmX13_jones_60 (by decide) (fun hc => ?_) (fun hc => ?_)
        · have hq := tw_it hq hc
          exact ih_2 x1 x2 0 z H locs ls hM (lv_sub hl [0, 1, 2] rfl) hq
        · have hq := tw_if hq hc
          refine lv_aload_n hx hb dmX13_jones_63 rfl (lv_at hl 0 rfl) ?_
          refine mg13_208 hx hb hT hown hK hM dmX13_jones_64 ?_
          refine lv_iload_n hx hb dmX13_jones_67 rfl (lv_at hl 3 rfl) ?_
          refine lv_aload_n hx hb dmX13_jones_68 rfl (lv_at hl 0 rfl) ?_
          refine mg13_110 hx hb hT hown hK hM dmX13_jones_69 ?_
          refine lv_bipush (v := 32) hx hb dmX13_jones_72 (by decide) ?_
          refine lv_iload_n hx hb dmX13_jones_74 rfl (lv_at hl 1 rfl) ?_
          refine lv_imul hx hb dmX13_jones_75 ?_
          refine lv_iload_n hx hb dmX13_jones_76 rfl (lv_at hl 3 rfl) ?_
          refine lv_iadd hx hb dmX13_jones_77 ?_
          refine tw_iald mX_ok hx hb hK hM mr_12 hq dmX13_jones_78 (fun v10 hq => ?_)
          refine tw_iast mX_ok hU hx hb hK hM mr_50 hq dmX13_jones_79 (fun z11 H locs hM hq => ?_)
          refine lv_iinc (v := (x3 + 1)) (lv' := [(3, .int (x3 + 1)), (0, .ref (u 0)), (1, .int x1), (2, .int x2)]) hx hb dmX13_jones_80 hl (k := 3) rfl rfl (by decide) rfl (fun ls hl => ?_)
          refine lv_goto (tgt := 57) hx hb dmX13_jones_83 (by decide) ?_
          exact ih_1 x1 x2 (x3 + 1) z11 H locs ls hM (lv_sub hl [1, 2, 3, 0] rfl) hq
      · intro x1 x2 x3 z H locs ls  hM hl hq
        have hq : qm_X13_jones_2 K (q_X13_jones K k) x1 x2 x3 z = some (r, z1) := hq
        unfold qm_X13_jones_2 at hq
        refine lv_iload_n hx hb dmX13_jones_86 rfl (lv_at hl 2 rfl) ?_
        refine lv_bipush (v := (-100)) hx hb dmX13_jones_87 (by decide) ?_
        refine lv_icmp_lt (tgt := 98) hx hb dmX13_jones_89 (by decide) (fun hc => ?_) (fun hc => ?_)
        · have hq := tw_it hq hc
          exact ih_3 x1 x2 0 z H locs ls hM (lv_sub hl [0, 1, 2] rfl) hq
        · have hq := tw_if hq hc
          refine lv_iload_n hx hb dmX13_jones_92 rfl (lv_at hl 2 rfl) ?_
          refine lv_bipush (v := 100) hx hb dmX13_jones_93 (by decide) ?_
          refine lv_icmp_le (tgt := 102) hx hb dmX13_jones_95 (by decide) (fun hc => ?_) (fun hc => ?_)
          · have hq := tw_it hq hc
            refine lv_aload_n hx hb dmX13_jones_102 rfl (lv_at hl 0 rfl) ?_
            refine mg13_202 hx hb hT hown hK hM dmX13_jones_103 ?_
            refine lv_iload_n hx hb dmX13_jones_106 rfl (lv_at hl 2 rfl) ?_
            refine lv_bipush (v := 100) hx hb dmX13_jones_107 (by decide) ?_
            refine lv_iadd hx hb dmX13_jones_109 ?_
            refine tw_lald mX_ok hx hb hK hM mr_48 hq dmX13_jones_110 (fun v12 hq => ?_)
            refine lv_l2i hx hb dmX13_jones_111 rfl ?_
            exact mw_iret hx hb hr hlocks hM hq hQQ dmX13_jones_112
          · have hq := tw_if hq hc
            exact ih_3 x1 x2 0 z H locs ls hM (lv_sub hl [0, 1, 2] rfl) hq
      · intro x1 x2 x3 z H locs ls  hM hl hq
        have hq : qm_X13_jones_3 K (q_X13_jones K k) x1 x2 x3 z = some (r, z1) := hq
        unfold qm_X13_jones_3 at hq
        refine lv_iconst (v := 0) hx hb dmX13_jones_98 (by decide) ?_
        refine lv_goto (tgt := 112) hx hb dmX13_jones_99 (by decide) ?_
        exact mw_iret hx hb hr hlocks hM hq hQQ dmX13_jones_112
  exact (key K).1 x1 x2 0 z s.heap [] ls  hM (lv_sub hl [0, 1, 2] rfl) hq
theorem dmX13_colourFaces_0 : decode cX13_colourFaces 0 = .ok (.aload_n 1, 1) := dw_at cX13_colourFaces_k0 (p := 0) rfl (by decide +kernel)
theorem dmX13_colourFaces_1 : decode cX13_colourFaces 1 = .ok (.getfield 47, 3) := dw_at cX13_colourFaces_k0 (p := 1) rfl (by decide +kernel)
theorem dmX13_colourFaces_4 : decode cX13_colourFaces 4 = .ok (.aload_n 1, 1) := dw_at cX13_colourFaces_k0 (p := 4) rfl (by decide +kernel)
theorem dmX13_colourFaces_5 : decode cX13_colourFaces 5 = .ok (.getfield 18, 3) := dw_at cX13_colourFaces_k0 (p := 5) rfl (by decide +kernel)
theorem dmX13_colourFaces_8 : decode cX13_colourFaces 8 = .ok (.iload_n 2, 1) := dw_at cX13_colourFaces_k0 (p := 8) rfl (by decide +kernel)
theorem dmX13_colourFaces_9 : decode cX13_colourFaces 9 = .ok (.iaload, 1) := dw_at cX13_colourFaces_k0 (p := 9) rfl (by decide +kernel)
theorem dmX13_colourFaces_10 : decode cX13_colourFaces 10 = .ok (.iaload, 1) := dw_at cX13_colourFaces_k0 (p := 10) rfl (by decide +kernel)
theorem dmX13_colourFaces_11 : decode cX13_colourFaces 11 = .ok (.istore_n 3, 1) := dw_at cX13_colourFaces_k0 (p := 11) rfl (by decide +kernel)
theorem dmX13_colourFaces_12 : decode cX13_colourFaces 12 = .ok (.iconst 0, 1) := dw_at cX13_colourFaces_k0 (p := 12) rfl (by decide +kernel)
theorem dmX13_colourFaces_13 : decode cX13_colourFaces 13 = .ok (.istore 4, 2) := dw_at cX13_colourFaces_k0 (p := 13) rfl (by decide +kernel)
theorem dmX13_colourFaces_15 : decode cX13_colourFaces 15 = .ok (.iload 4, 2) := dw_at cX13_colourFaces_k0 (p := 15) rfl (by decide +kernel)
theorem dmX13_colourFaces_17 : decode cX13_colourFaces 17 = .ok (.bipush 80, 2) := dw_at cX13_colourFaces_k0 (p := 17) rfl (by decide +kernel)
theorem dmX13_colourFaces_19 : decode cX13_colourFaces 19 = .ok (.if_icmp .ge 17, 3) := dw_at cX13_colourFaces_k0 (p := 19) rfl (by decide +kernel)
theorem dmX13_colourFaces_22 : decode cX13_colourFaces 22 = .ok (.aload_n 0, 1) := dw_at cX13_colourFaces_k0 (p := 22) rfl (by decide +kernel)
theorem dmX13_colourFaces_23 : decode cX13_colourFaces 23 = .ok (.getfield 214, 3) := dw_at cX13_colourFaces_k0 (p := 23) rfl (by decide +kernel)
theorem dmX13_colourFaces_26 : decode cX13_colourFaces 26 = .ok (.iload 4, 2) := dw_at cX13_colourFaces_k1 (p := 0) rfl (by decide +kernel)
theorem dmX13_colourFaces_28 : decode cX13_colourFaces 28 = .ok (.iconst 0, 1) := dw_at cX13_colourFaces_k1 (p := 2) rfl (by decide +kernel)
theorem dmX13_colourFaces_29 : decode cX13_colourFaces 29 = .ok (.iastore, 1) := dw_at cX13_colourFaces_k1 (p := 3) rfl (by decide +kernel)
theorem dmX13_colourFaces_30 : decode cX13_colourFaces 30 = .ok (.iinc 4 1, 3) := dw_at cX13_colourFaces_k1 (p := 4) rfl (by decide +kernel)
theorem dmX13_colourFaces_33 : decode cX13_colourFaces 33 = .ok (.goto (-18), 3) := dw_at cX13_colourFaces_k1 (p := 7) rfl (by decide +kernel)
theorem dmX13_colourFaces_36 : decode cX13_colourFaces 36 = .ok (.aload_n 0, 1) := dw_at cX13_colourFaces_k1 (p := 10) rfl (by decide +kernel)
theorem dmX13_colourFaces_37 : decode cX13_colourFaces 37 = .ok (.getfield 214, 3) := dw_at cX13_colourFaces_k1 (p := 11) rfl (by decide +kernel)
theorem dmX13_colourFaces_40 : decode cX13_colourFaces 40 = .ok (.aload_n 1, 1) := dw_at cX13_colourFaces_k1 (p := 14) rfl (by decide +kernel)
theorem dmX13_colourFaces_41 : decode cX13_colourFaces 41 = .ok (.getfield 525, 3) := dw_at cX13_colourFaces_k1 (p := 15) rfl (by decide +kernel)
theorem dmX13_colourFaces_44 : decode cX13_colourFaces 44 = .ok (.iconst 2, 1) := dw_at cX13_colourFaces_k1 (p := 18) rfl (by decide +kernel)
theorem dmX13_colourFaces_45 : decode cX13_colourFaces 45 = .ok (.iload_n 2, 1) := dw_at cX13_colourFaces_k1 (p := 19) rfl (by decide +kernel)
theorem dmX13_colourFaces_46 : decode cX13_colourFaces 46 = .ok (.imul, 1) := dw_at cX13_colourFaces_k1 (p := 20) rfl (by decide +kernel)
theorem dmX13_colourFaces_47 : decode cX13_colourFaces 47 = .ok (.iaload, 1) := dw_at cX13_colourFaces_k1 (p := 21) rfl (by decide +kernel)
theorem dmX13_colourFaces_48 : decode cX13_colourFaces 48 = .ok (.iconst 1, 1) := dw_at cX13_colourFaces_k1 (p := 22) rfl (by decide +kernel)
theorem dmX13_colourFaces_49 : decode cX13_colourFaces 49 = .ok (.iastore, 1) := dw_at cX13_colourFaces_k1 (p := 23) rfl (by decide +kernel)
theorem dmX13_colourFaces_50 : decode cX13_colourFaces 50 = .ok (.iconst 1, 1) := dw_at cX13_colourFaces_k2 (p := 0) rfl (by decide +kernel)
theorem dmX13_colourFaces_51 : decode cX13_colourFaces 51 = .ok (.istore 4, 2) := dw_at cX13_colourFaces_k2 (p := 1) rfl (by decide +kernel)
theorem dmX13_colourFaces_53 : decode cX13_colourFaces 53 = .ok (.iload 4, 2) := dw_at cX13_colourFaces_k2 (p := 3) rfl (by decide +kernel)
theorem dmX13_colourFaces_55 : decode cX13_colourFaces 55 = .ok (.ifCond .eq 148, 3) := dw_at cX13_colourFaces_k2 (p := 5) rfl (by decide +kernel)
theorem dmX13_colourFaces_58 : decode cX13_colourFaces 58 = .ok (.iconst 0, 1) := dw_at cX13_colourFaces_k2 (p := 8) rfl (by decide +kernel)
theorem dmX13_colourFaces_59 : decode cX13_colourFaces 59 = .ok (.istore 4, 2) := dw_at cX13_colourFaces_k2 (p := 9) rfl (by decide +kernel)
theorem dmX13_colourFaces_61 : decode cX13_colourFaces 61 = .ok (.iconst 0, 1) := dw_at cX13_colourFaces_k2 (p := 11) rfl (by decide +kernel)
theorem dmX13_colourFaces_62 : decode cX13_colourFaces 62 = .ok (.istore 5, 2) := dw_at cX13_colourFaces_k2 (p := 12) rfl (by decide +kernel)
theorem dmX13_colourFaces_64 : decode cX13_colourFaces 64 = .ok (.iload 5, 2) := dw_at cX13_colourFaces_k2 (p := 14) rfl (by decide +kernel)
theorem dmX13_colourFaces_66 : decode cX13_colourFaces 66 = .ok (.aload_n 1, 1) := dw_at cX13_colourFaces_k2 (p := 16) rfl (by decide +kernel)
theorem dmX13_colourFaces_67 : decode cX13_colourFaces 67 = .ok (.getfield 44, 3) := dw_at cX13_colourFaces_k2 (p := 17) rfl (by decide +kernel)
theorem dmX13_colourFaces_70 : decode cX13_colourFaces 70 = .ok (.if_icmp .ge 130, 3) := dw_at cX13_colourFaces_k2 (p := 20) rfl (by decide +kernel)
theorem dmX13_colourFaces_73 : decode cX13_colourFaces 73 = .ok (.aload_n 1, 1) := dw_at cX13_colourFaces_k2 (p := 23) rfl (by decide +kernel)
theorem dmX13_colourFaces_74 : decode cX13_colourFaces 74 = .ok (.getfield 525, 3) := dw_at cX13_colourFaces_k3 (p := 0) rfl (by decide +kernel)
theorem dmX13_colourFaces_77 : decode cX13_colourFaces 77 = .ok (.iconst 2, 1) := dw_at cX13_colourFaces_k3 (p := 3) rfl (by decide +kernel)
theorem dmX13_colourFaces_78 : decode cX13_colourFaces 78 = .ok (.iload 5, 2) := dw_at cX13_colourFaces_k3 (p := 4) rfl (by decide +kernel)
theorem dmX13_colourFaces_80 : decode cX13_colourFaces 80 = .ok (.imul, 1) := dw_at cX13_colourFaces_k3 (p := 6) rfl (by decide +kernel)
theorem dmX13_colourFaces_81 : decode cX13_colourFaces 81 = .ok (.iaload, 1) := dw_at cX13_colourFaces_k3 (p := 7) rfl (by decide +kernel)
theorem dmX13_colourFaces_82 : decode cX13_colourFaces 82 = .ok (.istore 6, 2) := dw_at cX13_colourFaces_k3 (p := 8) rfl (by decide +kernel)
theorem dmX13_colourFaces_84 : decode cX13_colourFaces 84 = .ok (.aload_n 1, 1) := dw_at cX13_colourFaces_k3 (p := 10) rfl (by decide +kernel)
theorem dmX13_colourFaces_85 : decode cX13_colourFaces 85 = .ok (.getfield 525, 3) := dw_at cX13_colourFaces_k3 (p := 11) rfl (by decide +kernel)
theorem dmX13_colourFaces_88 : decode cX13_colourFaces 88 = .ok (.iconst 2, 1) := dw_at cX13_colourFaces_k3 (p := 14) rfl (by decide +kernel)
theorem dmX13_colourFaces_89 : decode cX13_colourFaces 89 = .ok (.iload 5, 2) := dw_at cX13_colourFaces_k3 (p := 15) rfl (by decide +kernel)
theorem dmX13_colourFaces_91 : decode cX13_colourFaces 91 = .ok (.imul, 1) := dw_at cX13_colourFaces_k3 (p := 17) rfl (by decide +kernel)
theorem dmX13_colourFaces_92 : decode cX13_colourFaces 92 = .ok (.iconst 1, 1) := dw_at cX13_colourFaces_k3 (p := 18) rfl (by decide +kernel)
theorem dmX13_colourFaces_93 : decode cX13_colourFaces 93 = .ok (.iadd, 1) := dw_at cX13_colourFaces_k3 (p := 19) rfl (by decide +kernel)
theorem dmX13_colourFaces_94 : decode cX13_colourFaces 94 = .ok (.iaload, 1) := dw_at cX13_colourFaces_k3 (p := 20) rfl (by decide +kernel)
theorem dmX13_colourFaces_95 : decode cX13_colourFaces 95 = .ok (.istore 7, 2) := dw_at cX13_colourFaces_k3 (p := 21) rfl (by decide +kernel)
theorem dmX13_colourFaces_97 : decode cX13_colourFaces 97 = .ok (.aload_n 1, 1) := dw_at cX13_colourFaces_k3 (p := 23) rfl (by decide +kernel)
theorem dmX13_colourFaces_98 : decode cX13_colourFaces 98 = .ok (.getfield 47, 3) := dw_at cX13_colourFaces_k4 (p := 0) rfl (by decide +kernel)
theorem dmX13_colourFaces_101 : decode cX13_colourFaces 101 = .ok (.aload_n 1, 1) := dw_at cX13_colourFaces_k4 (p := 3) rfl (by decide +kernel)
theorem dmX13_colourFaces_102 : decode cX13_colourFaces 102 = .ok (.getfield 18, 3) := dw_at cX13_colourFaces_k4 (p := 4) rfl (by decide +kernel)
theorem dmX13_colourFaces_105 : decode cX13_colourFaces 105 = .ok (.iload 5, 2) := dw_at cX13_colourFaces_k4 (p := 7) rfl (by decide +kernel)
theorem dmX13_colourFaces_107 : decode cX13_colourFaces 107 = .ok (.iaload, 1) := dw_at cX13_colourFaces_k4 (p := 9) rfl (by decide +kernel)
theorem dmX13_colourFaces_108 : decode cX13_colourFaces 108 = .ok (.iaload, 1) := dw_at cX13_colourFaces_k4 (p := 10) rfl (by decide +kernel)
theorem dmX13_colourFaces_109 : decode cX13_colourFaces 109 = .ok (.iload_n 3, 1) := dw_at cX13_colourFaces_k4 (p := 11) rfl (by decide +kernel)
theorem dmX13_colourFaces_110 : decode cX13_colourFaces 110 = .ok (.if_icmp .ne 84, 3) := dw_at cX13_colourFaces_k4 (p := 12) rfl (by decide +kernel)
theorem dmX13_colourFaces_113 : decode cX13_colourFaces 113 = .ok (.aload_n 0, 1) := dw_at cX13_colourFaces_k4 (p := 15) rfl (by decide +kernel)
theorem dmX13_colourFaces_114 : decode cX13_colourFaces 114 = .ok (.getfield 214, 3) := dw_at cX13_colourFaces_k4 (p := 16) rfl (by decide +kernel)
theorem dmX13_colourFaces_117 : decode cX13_colourFaces 117 = .ok (.iload 6, 2) := dw_at cX13_colourFaces_k4 (p := 19) rfl (by decide +kernel)
theorem dmX13_colourFaces_119 : decode cX13_colourFaces 119 = .ok (.iaload, 1) := dw_at cX13_colourFaces_k4 (p := 21) rfl (by decide +kernel)
theorem dmX13_colourFaces_120 : decode cX13_colourFaces 120 = .ok (.ifCond .ne 7, 3) := dw_at cX13_colourFaces_k4 (p := 22) rfl (by decide +kernel)
theorem dmX13_colourFaces_123 : decode cX13_colourFaces 123 = .ok (.iconst 1, 1) := dw_at cX13_colourFaces_k5 (p := 0) rfl (by decide +kernel)
theorem dmX13_colourFaces_124 : decode cX13_colourFaces 124 = .ok (.goto 4, 3) := dw_at cX13_colourFaces_k5 (p := 1) rfl (by decide +kernel)
theorem dmX13_colourFaces_127 : decode cX13_colourFaces 127 = .ok (.iconst 0, 1) := dw_at cX13_colourFaces_k5 (p := 4) rfl (by decide +kernel)
theorem dmX13_colourFaces_128 : decode cX13_colourFaces 128 = .ok (.aload_n 0, 1) := dw_at cX13_colourFaces_k5 (p := 5) rfl (by decide +kernel)
theorem dmX13_colourFaces_129 : decode cX13_colourFaces 129 = .ok (.getfield 214, 3) := dw_at cX13_colourFaces_k5 (p := 6) rfl (by decide +kernel)
theorem dmX13_colourFaces_132 : decode cX13_colourFaces 132 = .ok (.iload 7, 2) := dw_at cX13_colourFaces_k5 (p := 9) rfl (by decide +kernel)
theorem dmX13_colourFaces_134 : decode cX13_colourFaces 134 = .ok (.iaload, 1) := dw_at cX13_colourFaces_k5 (p := 11) rfl (by decide +kernel)
theorem dmX13_colourFaces_135 : decode cX13_colourFaces 135 = .ok (.ifCond .ne 7, 3) := dw_at cX13_colourFaces_k5 (p := 12) rfl (by decide +kernel)
theorem dmX13_colourFaces_138 : decode cX13_colourFaces 138 = .ok (.iconst 1, 1) := dw_at cX13_colourFaces_k5 (p := 15) rfl (by decide +kernel)
theorem dmX13_colourFaces_139 : decode cX13_colourFaces 139 = .ok (.goto 4, 3) := dw_at cX13_colourFaces_k5 (p := 16) rfl (by decide +kernel)
theorem dmX13_colourFaces_142 : decode cX13_colourFaces 142 = .ok (.iconst 0, 1) := dw_at cX13_colourFaces_k5 (p := 19) rfl (by decide +kernel)
theorem dmX13_colourFaces_143 : decode cX13_colourFaces 143 = .ok (.if_icmp .eq 51, 3) := dw_at cX13_colourFaces_k5 (p := 20) rfl (by decide +kernel)
theorem dmX13_colourFaces_146 : decode cX13_colourFaces 146 = .ok (.aload_n 0, 1) := dw_at cX13_colourFaces_k5 (p := 23) rfl (by decide +kernel)
theorem dmX13_colourFaces_147 : decode cX13_colourFaces 147 = .ok (.getfield 214, 3) := dw_at cX13_colourFaces_k6 (p := 0) rfl (by decide +kernel)
theorem dmX13_colourFaces_150 : decode cX13_colourFaces 150 = .ok (.iload 6, 2) := dw_at cX13_colourFaces_k6 (p := 3) rfl (by decide +kernel)
theorem dmX13_colourFaces_152 : decode cX13_colourFaces 152 = .ok (.iaload, 1) := dw_at cX13_colourFaces_k6 (p := 5) rfl (by decide +kernel)
theorem dmX13_colourFaces_153 : decode cX13_colourFaces 153 = .ok (.ifCond .ne 22, 3) := dw_at cX13_colourFaces_k6 (p := 6) rfl (by decide +kernel)
theorem dmX13_colourFaces_156 : decode cX13_colourFaces 156 = .ok (.aload_n 0, 1) := dw_at cX13_colourFaces_k6 (p := 9) rfl (by decide +kernel)
theorem dmX13_colourFaces_157 : decode cX13_colourFaces 157 = .ok (.getfield 214, 3) := dw_at cX13_colourFaces_k6 (p := 10) rfl (by decide +kernel)
theorem dmX13_colourFaces_160 : decode cX13_colourFaces 160 = .ok (.iload 6, 2) := dw_at cX13_colourFaces_k6 (p := 13) rfl (by decide +kernel)
theorem dmX13_colourFaces_162 : decode cX13_colourFaces 162 = .ok (.iconst 3, 1) := dw_at cX13_colourFaces_k6 (p := 15) rfl (by decide +kernel)
theorem dmX13_colourFaces_163 : decode cX13_colourFaces 163 = .ok (.aload_n 0, 1) := dw_at cX13_colourFaces_k6 (p := 16) rfl (by decide +kernel)
theorem dmX13_colourFaces_164 : decode cX13_colourFaces 164 = .ok (.getfield 214, 3) := dw_at cX13_colourFaces_k6 (p := 17) rfl (by decide +kernel)
theorem dmX13_colourFaces_167 : decode cX13_colourFaces 167 = .ok (.iload 7, 2) := dw_at cX13_colourFaces_k6 (p := 20) rfl (by decide +kernel)
theorem dmX13_colourFaces_169 : decode cX13_colourFaces 169 = .ok (.iaload, 1) := dw_at cX13_colourFaces_k6 (p := 22) rfl (by decide +kernel)
theorem dmX13_colourFaces_170 : decode cX13_colourFaces 170 = .ok (.isub, 1) := dw_at cX13_colourFaces_k6 (p := 23) rfl (by decide +kernel)
theorem dmX13_colourFaces_171 : decode cX13_colourFaces 171 = .ok (.iastore, 1) := dw_at cX13_colourFaces_k7 (p := 0) rfl (by decide +kernel)
theorem dmX13_colourFaces_172 : decode cX13_colourFaces 172 = .ok (.goto 19, 3) := dw_at cX13_colourFaces_k7 (p := 1) rfl (by decide +kernel)
theorem dmX13_colourFaces_175 : decode cX13_colourFaces 175 = .ok (.aload_n 0, 1) := dw_at cX13_colourFaces_k7 (p := 4) rfl (by decide +kernel)
theorem dmX13_colourFaces_176 : decode cX13_colourFaces 176 = .ok (.getfield 214, 3) := dw_at cX13_colourFaces_k7 (p := 5) rfl (by decide +kernel)
theorem dmX13_colourFaces_179 : decode cX13_colourFaces 179 = .ok (.iload 7, 2) := dw_at cX13_colourFaces_k7 (p := 8) rfl (by decide +kernel)
theorem dmX13_colourFaces_181 : decode cX13_colourFaces 181 = .ok (.iconst 3, 1) := dw_at cX13_colourFaces_k7 (p := 10) rfl (by decide +kernel)
theorem dmX13_colourFaces_182 : decode cX13_colourFaces 182 = .ok (.aload_n 0, 1) := dw_at cX13_colourFaces_k7 (p := 11) rfl (by decide +kernel)
theorem dmX13_colourFaces_183 : decode cX13_colourFaces 183 = .ok (.getfield 214, 3) := dw_at cX13_colourFaces_k7 (p := 12) rfl (by decide +kernel)
theorem dmX13_colourFaces_186 : decode cX13_colourFaces 186 = .ok (.iload 6, 2) := dw_at cX13_colourFaces_k7 (p := 15) rfl (by decide +kernel)
theorem dmX13_colourFaces_188 : decode cX13_colourFaces 188 = .ok (.iaload, 1) := dw_at cX13_colourFaces_k7 (p := 17) rfl (by decide +kernel)
theorem dmX13_colourFaces_189 : decode cX13_colourFaces 189 = .ok (.isub, 1) := dw_at cX13_colourFaces_k7 (p := 18) rfl (by decide +kernel)
theorem dmX13_colourFaces_190 : decode cX13_colourFaces 190 = .ok (.iastore, 1) := dw_at cX13_colourFaces_k7 (p := 19) rfl (by decide +kernel)
theorem dmX13_colourFaces_191 : decode cX13_colourFaces 191 = .ok (.iconst 1, 1) := dw_at cX13_colourFaces_k7 (p := 20) rfl (by decide +kernel)
theorem dmX13_colourFaces_192 : decode cX13_colourFaces 192 = .ok (.istore 4, 2) := dw_at cX13_colourFaces_k7 (p := 21) rfl (by decide +kernel)
theorem dmX13_colourFaces_194 : decode cX13_colourFaces 194 = .ok (.iinc 5 1, 3) := dw_at cX13_colourFaces_k7 (p := 23) rfl (by decide +kernel)
theorem dmX13_colourFaces_197 : decode cX13_colourFaces 197 = .ok (.goto (-133), 3) := dw_at cX13_colourFaces_k8 (p := 0) rfl (by decide +kernel)
theorem dmX13_colourFaces_200 : decode cX13_colourFaces 200 = .ok (.goto (-147), 3) := dw_at cX13_colourFaces_k8 (p := 3) rfl (by decide +kernel)
theorem dmX13_colourFaces_203 : decode cX13_colourFaces 203 = .ok (.iconst 0, 1) := dw_at cX13_colourFaces_k8 (p := 6) rfl (by decide +kernel)
theorem dmX13_colourFaces_204 : decode cX13_colourFaces 204 = .ok (.istore 5, 2) := dw_at cX13_colourFaces_k8 (p := 7) rfl (by decide +kernel)
theorem dmX13_colourFaces_206 : decode cX13_colourFaces 206 = .ok (.iconst 0, 1) := dw_at cX13_colourFaces_k8 (p := 9) rfl (by decide +kernel)
theorem dmX13_colourFaces_207 : decode cX13_colourFaces 207 = .ok (.istore 6, 2) := dw_at cX13_colourFaces_k8 (p := 10) rfl (by decide +kernel)
theorem dmX13_colourFaces_209 : decode cX13_colourFaces 209 = .ok (.iload 6, 2) := dw_at cX13_colourFaces_k8 (p := 12) rfl (by decide +kernel)
theorem dmX13_colourFaces_211 : decode cX13_colourFaces 211 = .ok (.aload_n 1, 1) := dw_at cX13_colourFaces_k8 (p := 14) rfl (by decide +kernel)
theorem dmX13_colourFaces_212 : decode cX13_colourFaces 212 = .ok (.getfield 519, 3) := dw_at cX13_colourFaces_k8 (p := 15) rfl (by decide +kernel)
theorem dmX13_colourFaces_215 : decode cX13_colourFaces 215 = .ok (.if_icmp .ge 32, 3) := dw_at cX13_colourFaces_k8 (p := 18) rfl (by decide +kernel)
theorem dmX13_colourFaces_218 : decode cX13_colourFaces 218 = .ok (.aload_n 0, 1) := dw_at cX13_colourFaces_k8 (p := 21) rfl (by decide +kernel)
theorem dmX13_colourFaces_219 : decode cX13_colourFaces 219 = .ok (.getfield 214, 3) := dw_at cX13_colourFaces_k8 (p := 22) rfl (by decide +kernel)
theorem dmX13_colourFaces_222 : decode cX13_colourFaces 222 = .ok (.iload 6, 2) := dw_at cX13_colourFaces_k9 (p := 0) rfl (by decide +kernel)
theorem dmX13_colourFaces_224 : decode cX13_colourFaces 224 = .ok (.iaload, 1) := dw_at cX13_colourFaces_k9 (p := 2) rfl (by decide +kernel)
theorem dmX13_colourFaces_225 : decode cX13_colourFaces 225 = .ok (.iconst 1, 1) := dw_at cX13_colourFaces_k9 (p := 3) rfl (by decide +kernel)
theorem dmX13_colourFaces_226 : decode cX13_colourFaces 226 = .ok (.if_icmp .ne 15, 3) := dw_at cX13_colourFaces_k9 (p := 4) rfl (by decide +kernel)
theorem dmX13_colourFaces_229 : decode cX13_colourFaces 229 = .ok (.aload_n 0, 1) := dw_at cX13_colourFaces_k9 (p := 7) rfl (by decide +kernel)
theorem dmX13_colourFaces_230 : decode cX13_colourFaces 230 = .ok (.getfield 217, 3) := dw_at cX13_colourFaces_k9 (p := 8) rfl (by decide +kernel)
theorem dmX13_colourFaces_233 : decode cX13_colourFaces 233 = .ok (.iload 6, 2) := dw_at cX13_colourFaces_k9 (p := 11) rfl (by decide +kernel)
theorem dmX13_colourFaces_235 : decode cX13_colourFaces 235 = .ok (.iload 5, 2) := dw_at cX13_colourFaces_k9 (p := 13) rfl (by decide +kernel)
theorem dmX13_colourFaces_237 : decode cX13_colourFaces 237 = .ok (.iastore, 1) := dw_at cX13_colourFaces_k9 (p := 15) rfl (by decide +kernel)
theorem dmX13_colourFaces_238 : decode cX13_colourFaces 238 = .ok (.iinc 5 1, 3) := dw_at cX13_colourFaces_k9 (p := 16) rfl (by decide +kernel)
theorem dmX13_colourFaces_241 : decode cX13_colourFaces 241 = .ok (.iinc 6 1, 3) := dw_at cX13_colourFaces_k9 (p := 19) rfl (by decide +kernel)
theorem dmX13_colourFaces_244 : decode cX13_colourFaces 244 = .ok (.goto (-35), 3) := dw_at cX13_colourFaces_k9 (p := 22) rfl (by decide +kernel)
theorem dmX13_colourFaces_247 : decode cX13_colourFaces 247 = .ok (.iload 5, 2) := dw_at cX13_colourFaces_k9 (p := 25) rfl (by decide +kernel)
theorem dmX13_colourFaces_249 : decode cX13_colourFaces 249 = .ok (.ireturn, 1) := dw_at cX13_colourFaces_k9 (p := 27) rfl (by decide +kernel)
def qm_X13_colourFaces_0 (K : Nat) (go : Nat → Int32 → Int32 → Int32 → Int32 → Int32 → Int32 → Nat → Int32 → Int32 → ow_MS → Option (Int32 × ow_MS)) (x2 : Int32) (x3 : Int32) (x4 : Int32) (x5 : Int32) (x6 : Int32) (x7 : Int32) (r1 : Nat) (t0 : Int32) (t1 : Int32) (z : ow_MS) : Option (Int32 × ow_MS) :=
 rdI mX z (r1 + 8) x2 fun v1 => rdI mX z (r1 + 12) v1 fun v2 => go 1 x2 v2 0 0 0 0 r1 0 0 z
def qm_X13_colourFaces_1 (K : Nat) (go : Nat → Int32 → Int32 → Int32 → Int32 → Int32 → Int32 → Nat → Int32 → Int32 → ow_MS → Option (Int32 × ow_MS)) (x2 : Int32) (x3 : Int32) (x4 : Int32) (x5 : Int32) (x6 : Int32) (x7 : Int32) (r1 : Nat) (t0 : Int32) (t1 : Int32) (z : ow_MS) : Option (Int32 × ow_MS) :=
 (if 80 ≤ x4 then rdI mX z (r1 + 14) (2 * x2) fun v3 => wrI mX z 52 v3 1 fun z4 => go 2 x2 x3 1 0 0 0 r1 0 0 z4
 else wrI mX z 52 x4 0 fun z5 => go 1 x2 x3 (x4 + 1) 0 0 0 r1 0 0 z5)
def qm_X13_colourFaces_2 (K : Nat) (go : Nat → Int32 → Int32 → Int32 → Int32 → Int32 → Int32 → Nat → Int32 → Int32 → ow_MS → Option (Int32 × ow_MS)) (x2 : Int32) (x3 : Int32) (x4 : Int32) (x5 : Int32) (x6 : Int32) (x7 : Int32) (r1 : Nat) (t0 : Int32) (t1 : Int32) (z : ow_MS) : Option (Int32 × ow_MS) :=
 (if x4 = 0 then go 8 x2 x3 x4 0 0 0 r1 0 0 z
 else go 3 x2 x3 0 0 0 0 r1 0 0 z)
def qm_X13_colourFaces_3 (K : Nat) (go : Nat → Int32 → Int32 → Int32 → Int32 → Int32 → Int32 → Nat → Int32 → Int32 → ow_MS → Option (Int32 × ow_MS)) (x2 : Int32) (x3 : Int32) (x4 : Int32) (x5 : Int32) (x6 : Int32) (x7 : Int32) (r1 : Nat) (t0 : Int32) (t1 : Int32) (z : ow_MS) : Option (Int32 × ow_MS) :=
 rdF z (r1 + 1) fun v6 => (if v6 ≤ x5 then go 2 x2 x3 x4 0 0 0 r1 0 0 z
 else rdI mX z (r1 + 14) (2 * x5) fun v7 => rdI mX z (r1 + 14) ((2 * x5) + 1) fun v8 => rdI mX z (r1 + 8) x5 fun v9 => rdI mX z (r1 + 12) v9 fun v10 => (if v10 = x3 then rdI mX z 52 v7 fun v11 => (if v11 = 0 then go 4 x2 x3 x4 x5 v7 v8 r1 1 0 z
 else go 4 x2 x3 x4 x5 v7 v8 r1 0 0 z)
 else go 7 x2 x3 x4 x5 v7 v8 r1 0 0 z))
def qm_X13_colourFaces_4 (K : Nat) (go : Nat → Int32 → Int32 → Int32 → Int32 → Int32 → Int32 → Nat → Int32 → Int32 → ow_MS → Option (Int32 × ow_MS)) (x2 : Int32) (x3 : Int32) (x4 : Int32) (x5 : Int32) (x6 : Int32) (x7 : Int32) (r1 : Nat) (t0 : Int32) (t1 : Int32) (z : ow_MS) : Option (Int32 × ow_MS) :=
 rdI mX z 52 x7 fun v12 => (if v12 = 0 then go 5 x2 x3 x4 x5 x6 x7 r1 1 t0 z
 else go 5 x2 x3 x4 x5 x6 x7 r1 0 t0 z)
def qm_X13_colourFaces_5 (K : Nat) (go : Nat → Int32 → Int32 → Int32 → Int32 → Int32 → Int32 → Nat → Int32 → Int32 → ow_MS → Option (Int32 × ow_MS)) (x2 : Int32) (x3 : Int32) (x4 : Int32) (x5 : Int32) (x6 : Int32) (x7 : Int32) (r1 : Nat) (t0 : Int32) (t1 : Int32) (z : ow_MS) : Option (Int32 × ow_MS) :=
 (if t1 = t0 then go 7 x2 x3 x4 x5 x6 x7 r1 0 0 z
 else rdI mX z 52 x6 fun v13 => (if v13 = 0 then rdI mX z 52 x7 fun v16 => wrI mX z 52 x6 (3 - v16) fun z17 => go 6 x2 x3 x4 x5 x6 x7 r1 0 0 z17
 else rdI mX z 52 x6 fun v14 => wrI mX z 52 x7 (3 - v14) fun z15 => go 6 x2 x3 x4 x5 x6 x7 r1 0 0 z15))
def qm_X13_colourFaces_6 (K : Nat) (go : Nat → Int32 → Int32 → Int32 → Int32 → Int32 → Int32 → Nat → Int32 → Int32 → ow_MS → Option (Int32 × ow_MS)) (x2 : Int32) (x3 : Int32) (x4 : Int32) (x5 : Int32) (x6 : Int32) (x7 : Int32) (r1 : Nat) (t0 : Int32) (t1 : Int32) (z : ow_MS) : Option (Int32 × ow_MS) :=
 go 7 x2 x3 1 x5 x6 x7 r1 0 0 z
def qm_X13_colourFaces_7 (K : Nat) (go : Nat → Int32 → Int32 → Int32 → Int32 → Int32 → Int32 → Nat → Int32 → Int32 → ow_MS → Option (Int32 × ow_MS)) (x2 : Int32) (x3 : Int32) (x4 : Int32) (x5 : Int32) (x6 : Int32) (x7 : Int32) (r1 : Nat) (t0 : Int32) (t1 : Int32) (z : ow_MS) : Option (Int32 × ow_MS) :=
 go 3 x2 x3 x4 (x5 + 1) 0 0 r1 0 0 z
def qm_X13_colourFaces_8 (K : Nat) (go : Nat → Int32 → Int32 → Int32 → Int32 → Int32 → Int32 → Nat → Int32 → Int32 → ow_MS → Option (Int32 × ow_MS)) (x2 : Int32) (x3 : Int32) (x4 : Int32) (x5 : Int32) (x6 : Int32) (x7 : Int32) (r1 : Nat) (t0 : Int32) (t1 : Int32) (z : ow_MS) : Option (Int32 × ow_MS) :=
 rdF z (r1 + 16) fun v18 => (if v18 ≤ x6 then some (x5, z)
 else rdI mX z 52 x6 fun v19 => (if v19 = 1 then wrI mX z 53 x6 x5 fun z20 => go 9 x2 x3 x4 (x5 + 1) x6 0 r1 0 0 z20
 else go 9 x2 x3 x4 x5 x6 0 r1 0 0 z))
def qm_X13_colourFaces_9 (K : Nat) (go : Nat → Int32 → Int32 → Int32 → Int32 → Int32 → Int32 → Nat → Int32 → Int32 → ow_MS → Option (Int32 × ow_MS)) (x2 : Int32) (x3 : Int32) (x4 : Int32) (x5 : Int32) (x6 : Int32) (x7 : Int32) (r1 : Nat) (t0 : Int32) (t1 : Int32) (z : ow_MS) : Option (Int32 × ow_MS) :=
 go 8 x2 x3 x4 x5 (x6 + 1) 0 r1 0 0 z
def qb_X13_colourFaces (K : Nat) (go : Nat → Int32 → Int32 → Int32 → Int32 → Int32 → Int32 → Nat → Int32 → Int32 → ow_MS → Option (Int32 × ow_MS)) (L : Nat) (x2 : Int32) (x3 : Int32) (x4 : Int32) (x5 : Int32) (x6 : Int32) (x7 : Int32) (r1 : Nat) (t0 : Int32) (t1 : Int32) (z : ow_MS) : Option (Int32 × ow_MS) := match L with
  | 0 => qm_X13_colourFaces_0 K go x2 x3 x4 x5 x6 x7 r1 t0 t1 z
  | 1 => qm_X13_colourFaces_1 K go x2 x3 x4 x5 x6 x7 r1 t0 t1 z
  | 2 => qm_X13_colourFaces_2 K go x2 x3 x4 x5 x6 x7 r1 t0 t1 z
  | 3 => qm_X13_colourFaces_3 K go x2 x3 x4 x5 x6 x7 r1 t0 t1 z
  | 4 => qm_X13_colourFaces_4 K go x2 x3 x4 x5 x6 x7 r1 t0 t1 z
  | 5 => qm_X13_colourFaces_5 K go x2 x3 x4 x5 x6 x7 r1 t0 t1 z
  | 6 => qm_X13_colourFaces_6 K go x2 x3 x4 x5 x6 x7 r1 t0 t1 z
  | 7 => qm_X13_colourFaces_7 K go x2 x3 x4 x5 x6 x7 r1 t0 t1 z
  | 8 => qm_X13_colourFaces_8 K go x2 x3 x4 x5 x6 x7 r1 t0 t1 z
  | 9 => qm_X13_colourFaces_9 K go x2 x3 x4 x5 x6 x7 r1 t0 t1 z
  | _ => none
def q_X13_colourFaces (K : Nat) : Nat → Nat → Int32 → Int32 → Int32 → Int32 → Int32 → Int32 → Nat → Int32 → Int32 → ow_MS → Option (Int32 × ow_MS)
  | 0 => fun _ _ _ _ _ _ _ _ _ _ _ => none
  | k + 1 => qb_X13_colourFaces K (q_X13_colourFaces K k)
def qe_X13_colourFaces (K : Nat) (r1 : Nat) (x2 : Int32) (z : ow_MS) : Option (Int32 × ow_MS) := q_X13_colourFaces K K 0 x2 0 0 0 0 0 r1 0 0 z
abbrev wm_X13_colourFaces : List Cond := .code yX13_colourFaces cX13_colourFaces 8 (some .int) :: wM
theorem cd_X13_colourFaces : yX13_colourFaces.cls = RX13 ∧ yX13_colourFaces.cls ≠ "java/lang/invoke/MethodHandle" ∧ yX13_colourFaces.cls ≠ "java/lang/invoke/VarHandle" ∧ (parseMethodDescriptor yX13_colourFaces.desc).map (fun d => d.parameters.length) = some 2 := by decide +kernel
set_option maxHeartbeats 4000000 in
set_option maxRecDepth 100000 in
theorem km_X13_colourFaces (l : Launch) (D : va_G) (q : ow_Q5) (u : Nat → Nat) (hU : tw_inj mX u) (K : Nat) (r1 : Nat) (x2 : Int32) (hr1 : mw_net r1) (z z1 : ow_MS) (r : Int32) (hq : qe_X13_colourFaces K r1 x2 z = some (r, z1)) : Met l yX13_colourFaces wm_X13_colourFaces ({ frames := 0, cells := 0, slots := 0, locals := 0 } : Room) (va_Pc [.ref (u 0), .ref (u r1), .int x2] (mw_pre D q u z)) (va_Qi (fun x (_ : Unit) => x = r) (fun _ t => va_P D vwCl (tw mX q u z1) t.heap) (tw_A mX u)) 0 0 (tw_A mX u) := by
  refine Met.ofW (cc := cX13_colourFaces) (maxL := 8) (ret := (some .int)) (by decide) rfl ?_
  intro p e s m args below meth c s₁ B hml hv
  obtain ⟨rfl, hP, hK, hN⟩ := hv
  have hx := B.exec
  have hb := B.bytes
  have hr := B.returns
  have hts := atoms_spec (ws := wm_X13_colourFaces) B.pre
  have hT : ∀ w ∈ wM, w.before ([.ref (u 0), .ref (u r1), .int x2] : List Value).toArray s = true := fun w h => hts w (List.mem_cons_of_mem _ h)
  have hown : s.vm.findClass RX13 = some m.cls := findClass_of_methodNamed B.named
  have hlocks := B.notSynchronized
  have hM : tw_M D vwCl mX q s.heap u z s.heap [] := ⟨hP, va_S.rf⟩
  have hl := lv_entry ([.ref (u 0), .ref (u r1), .int x2]) (n := 8) (Nat.le_of_ble_eq_true rfl)
  rw [lg_entry_eq]
  generalize (lg_sl ([.ref (u 0), .ref (u r1), .int x2]) ++ List.replicate (8 - (lg_sl ([.ref (u 0), .ref (u r1), .int x2])).length) Slot.unset).toArray = ls at hl ⊢
  have hl : lv_has ls 8 [(0, .ref (u 0)), (1, .ref (u r1)), (2, .int x2)] := hl
  refine ow_named (fun QQ hQQ => ?_)
  generalize ([.ref (u 0), .ref (u r1), .int x2] : List Value).toArray = args at hts hT hQQ ⊢
  have key : ∀ k : Nat, (∀ (x2 : Int32) (x3 : Int32) (x4 : Int32) (x5 : Int32) (x6 : Int32) (x7 : Int32) (r1 : Nat) (t0 : Int32) (t1 : Int32) (z : ow_MS) (H : Heap) (locs : List Loc) (ls : Array Slot), mw_net r1 → tw_M D vwCl mX q s.heap u z H locs → lv_has ls 8 [(0, .ref (u 0)), (1, .ref (u r1)), (2, .int x2)] → q_X13_colourFaces K k 0 x2 x3 x4 x5 x6 x7 r1 t0 t1 z = some (r, z1) → W p l e ({ frames := 0, cells := 0, slots := 0, locals := 0 } : Room) s m args below meth c H locs 0 0 QQ (F0 m 0 ls [])) ∧ (∀ (x2 : Int32) (x3 : Int32) (x4 : Int32) (x5 : Int32) (x6 : Int32) (x7 : Int32) (r1 : Nat) (t0 : Int32) (t1 : Int32) (z : ow_MS) (H : Heap) (locs : List Loc) (ls : Array Slot), mw_net r1 → tw_M D vwCl mX q s.heap u z H locs → lv_has ls 8 [(0, .ref (u 0)), (1, .ref (u r1)), (2, .int x2), (3, .int x3), (4, .int x4)] → q_X13_colourFaces K k 1 x2 x3 x4 x5 x6 x7 r1 t0 t1 z = some (r, z1) → W p l e ({ frames := 0, cells := 0, slots := 0, locals := 0 } : Room) s m args below meth c H locs 0 0 QQ (F0 m 15 ls [])) ∧ (∀ (x2 : Int32) (x3 : Int32) (x4 : Int32) (x5 : Int32) (x6 : Int32) (x7 : Int32) (r1 : Nat) (t0 : Int32) (t1 : Int32) (z : ow_MS) (H : Heap) (locs : List Loc) (ls : Array Slot), mw_net r1 → tw_M D vwCl mX q s.heap u z H locs → lv_has ls 8 [(0, .ref (u 0)), (1, .ref (u r1)), (2, .int x2), (3, .int x3), (4, .int x4)] → q_X13_colourFaces K k 2 x2 x3 x4 x5 x6 x7 r1 t0 t1 z = some (r, z1) → W p l e ({ frames := 0, cells := 0, slots := 0, locals := 0 } : Room) s m args below meth c H locs 0 0 QQ (F0 m 53 ls [])) ∧ (∀ (x2 : Int32) (x3 : Int32) (x4 : Int32) (x5 : Int32) (x6 : Int32) (x7 : Int32) (r1 : Nat) (t0 : Int32) (t1 : Int32) (z : ow_MS) (H : Heap) (locs : List Loc) (ls : Array Slot), mw_net r1 → tw_M D vwCl mX q s.heap u z H locs → lv_has ls 8 [(0, .ref (u 0)), (1, .ref (u r1)), (2, .int x2), (3, .int x3), (4, .int x4), (5, .int x5)] → q_X13_colourFaces K k 3 x2 x3 x4 x5 x6 x7 r1 t0 t1 z = some (r, z1) → W p l e ({ frames := 0, cells := 0, slots := 0, locals := 0 } : Room) s m args below meth c H locs 0 0 QQ (F0 m 64 ls [])) ∧ (∀ (x2 : Int32) (x3 : Int32) (x4 : Int32) (x5 : Int32) (x6 : Int32) (x7 : Int32) (r1 : Nat) (t0 : Int32) (t1 : Int32) (z : ow_MS) (H : Heap) (locs : List Loc) (ls : Array Slot), mw_net r1 → tw_M D vwCl mX q s.heap u z H locs → lv_has ls 8 [(0, .ref (u 0)), (1, .ref (u r1)), (2, .int x2), (3, .int x3), (4, .int x4), (5, .int x5), (6, .int x6), (7, .int x7)] → q_X13_colourFaces K k 4 x2 x3 x4 x5 x6 x7 r1 t0 t1 z = some (r, z1) → W p l e ({ frames := 0, cells := 0, slots := 0, locals := 0 } : Room) s m args below meth c H locs 0 0 QQ (F0 m 128 ls [.int t0])) ∧ (∀ (x2 : Int32) (x3 : Int32) (x4 : Int32) (x5 : Int32) (x6 : Int32) (x7 : Int32) (r1 : Nat) (t0 : Int32) (t1 : Int32) (z : ow_MS) (H : Heap) (locs : List Loc) (ls : Array Slot), mw_net r1 → tw_M D vwCl mX q s.heap u z H locs → lv_has ls 8 [(0, .ref (u 0)), (1, .ref (u r1)), (2, .int x2), (3, .int x3), (4, .int x4), (5, .int x5), (6, .int x6), (7, .int x7)] → q_X13_colourFaces K k 5 x2 x3 x4 x5 x6 x7 r1 t0 t1 z = some (r, z1) → W p l e ({ frames := 0, cells := 0, slots := 0, locals := 0 } : Room) s m args below meth c H locs 0 0 QQ (F0 m 143 ls [.int t0, .int t1])) ∧ (∀ (x2 : Int32) (x3 : Int32) (x4 : Int32) (x5 : Int32) (x6 : Int32) (x7 : Int32) (r1 : Nat) (t0 : Int32) (t1 : Int32) (z : ow_MS) (H : Heap) (locs : List Loc) (ls : Array Slot), mw_net r1 → tw_M D vwCl mX q s.heap u z H locs → lv_has ls 8 [(0, .ref (u 0)), (1, .ref (u r1)), (2, .int x2), (3, .int x3), (4, .int x4), (5, .int x5), (6, .int x6), (7, .int x7)] → q_X13_colourFaces K k 6 x2 x3 x4 x5 x6 x7 r1 t0 t1 z = some (r, z1) → W p l e ({ frames := 0, cells := 0, slots := 0, locals := 0 } : Room) s m args below meth c H locs 0 0 QQ (F0 m 191 ls [])) ∧ (∀ (x2 : Int32) (x3 : Int32) (x4 : Int32) (x5 : Int32) (x6 : Int32) (x7 : Int32) (r1 : Nat) (t0 : Int32) (t1 : Int32) (z : ow_MS) (H : Heap) (locs : List Loc) (ls : Array Slot), mw_net r1 → tw_M D vwCl mX q s.heap u z H locs → lv_has ls 8 [(0, .ref (u 0)), (1, .ref (u r1)), (2, .int x2), (3, .int x3), (4, .int x4), (5, .int x5), (6, .int x6), (7, .int x7)] → q_X13_colourFaces K k 7 x2 x3 x4 x5 x6 x7 r1 t0 t1 z = some (r, z1) → W p l e ({ frames := 0, cells := 0, slots := 0, locals := 0 } : Room) s m args below meth c H locs 0 0 QQ (F0 m 194 ls [])) ∧ (∀ (x2 : Int32) (x3 : Int32) (x4 : Int32) (x5 : Int32) (x6 : Int32) (x7 : Int32) (r1 : Nat) (t0 : Int32) (t1 : Int32) (z : ow_MS) (H : Heap) (locs : List Loc) (ls : Array Slot), mw_net r1 → tw_M D vwCl mX q s.heap u z H locs → lv_has ls 8 [(0, .ref (u 0)), (1, .ref (u r1)), (2, .int x2), (3, .int x3), (4, .int x4), (5, .int x5), (6, .int x6)] → q_X13_colourFaces K k 8 x2 x3 x4 x5 x6 x7 r1 t0 t1 z = some (r, z1) → W p l e ({ frames := 0, cells := 0, slots := 0, locals := 0 } : Room) s m args below meth c H locs 0 0 QQ (F0 m 209 ls [])) ∧ (∀ (x2 : Int32) (x3 : Int32) (x4 : Int32) (x5 : Int32) (x6 : Int32) (x7 : Int32) (r1 : Nat) (t0 : Int32) (t1 : Int32) (z : ow_MS) (H : Heap) (locs : List Loc) (ls : Array Slot), mw_net r1 → tw_M D vwCl mX q s.heap u z H locs → lv_has ls 8 [(0, .ref (u 0)), (1, .ref (u r1)), (2, .int x2), (3, .int x3), (4, .int x4), (5, .int x5), (6, .int x6)] → q_X13_colourFaces K k 9 x2 x3 x4 x5 x6 x7 r1 t0 t1 z = some (r, z1) → W p l e ({ frames := 0, cells := 0, slots := 0, locals := 0 } : Room) s m args below meth c H locs 0 0 QQ (F0 m 241 ls [])) := by
    intro k
    induction k with
    | zero => exact ⟨fun _ _ _ _ _ _ _ _ _ _ _ _ _ _ _ _ hq => tw_no hq, fun _ _ _ _ _ _ _ _ _ _ _ _ _ _ _ _ hq => tw_no hq, fun _ _ _ _ _ _ _ _ _ _ _ _ _ _ _ _ hq => tw_no hq, fun _ _ _ _ _ _ _ _ _ _ _ _ _ _ _ _ hq => tw_no hq, fun _ _ _ _ _ _ _ _ _ _ _ _ _ _ _ _ hq => tw_no hq, fun _ _ _ _ _ _ _ _ _ _ _ _ _ _ _ _ hq => tw_no hq, fun _ _ _ _ _ _ _ _ _ _ _ _ _ _ _ _ hq => tw_no hq, fun _ _ _ _ _ _ _ _ _ _ _ _ _ _ _ _ hq => tw_no hq, fun _ _ _ _ _ _ _ _ _ _ _ _ _ _ _ _ hq => tw_no hq, fun _ _ _ _ _ _ _ _ _ _ _ _ _ _ _ _ hq => tw_no hq⟩
    | succ k ih =>
      obtain ⟨ih_0, ih_1, ih_2, ih_3, ih_4, ih_5, ih_6, ih_7, ih_8, ih_9⟩ := ih
      refine ⟨?_, ?_, ?_, ?_, ?_, ?_, ?_, ?_, ?_, ?_⟩
      · intro x2 x3 x4 x5 x6 x7 r1 t0 t1 z H locs ls hr1 hM hl hq
        have hq : qm_X13_colourFaces_0 K (q_X13_colourFaces K k) x2 x3 x4 x5 x6 x7 r1 t0 t1 z = some (r, z1) := hq
        unfold qm_X13_colourFaces_0 at hq
        refine lv_aload_n hx hb dmX13_colourFaces_0 rfl (lv_at hl 1 rfl) ?_
        refine mg13_47 hx hb hT hown hK hM hN hr1 dmX13_colourFaces_1 ?_
        refine lv_aload_n hx hb dmX13_colourFaces_4 rfl (lv_at hl 1 rfl) ?_
        refine mg13_18 hx hb hT hown hK hM hN hr1 dmX13_colourFaces_5 ?_
        refine lv_iload_n hx hb dmX13_colourFaces_8 rfl (lv_at hl 2 rfl) ?_
        refine tw_iald mX_ok hx hb hK hM (mrn_8 hr1) hq dmX13_colourFaces_9 (fun v1 hq => ?_)
        refine tw_iald mX_ok hx hb hK hM (mrn_12 hr1) hq dmX13_colourFaces_10 (fun v2 hq => ?_)
        refine lv_istore_n (lv' := [(3, .int v2), (0, .ref (u 0)), (1, .ref (u r1)), (2, .int x2)]) hx hb dmX13_colourFaces_11 rfl hl (by decide) rfl (fun ls hl => ?_)
        refine lv_iconst (v := 0) hx hb dmX13_colourFaces_12 (by decide) ?_
        refine lv_istore (lv' := [(4, .int 0), (3, .int v2), (0, .ref (u 0)), (1, .ref (u r1)), (2, .int x2)]) hx hb dmX13_colourFaces_13 hl (by decide) rfl (fun ls hl => ?_)
        exact ih_1 x2 v2 0 0 0 0 r1 0 0 z H locs ls hr1 hM (lv_sub hl [2, 3, 4, 1, 0] rfl) hq
      · intro x2 x3 x4 x5 x6 x7 r1 t0 t1 z H locs ls hr1 hM hl hq
        have hq : qm_X13_colourFaces_1 K (q_X13_colourFaces K k) x2 x3 x4 x5 x6 x7 r1 t0 t1 z = some (r, z1) := hq
        unfold qm_X13_colourFaces_1 at hq
        refine lv_iload hx hb dmX13_colourFaces_15 (lv_at hl 4 rfl) ?_
        refine lv_bipush (v := 80) hx hb dmX13_colourFaces_17 (by decide) ?_
        refine lv_icmp_ge (tgt := 36) hx hb dmX13_colourFaces_19 (by decide) (fun hc => ?_) (fun hc => ?_)
        · have hq := tw_it hq hc
          refine lv_aload_n hx hb dmX13_colourFaces_36 rfl (lv_at hl 0 rfl) ?_
          refine mg13_214 hx hb hT hown hK hM dmX13_colourFaces_37 ?_
          refine lv_aload_n hx hb dmX13_colourFaces_40 rfl (lv_at hl 1 rfl) ?_
          refine mg13_525 hx hb hT hown hK hM hN hr1 dmX13_colourFaces_41 ?_
          refine lv_iconst (v := 2) hx hb dmX13_colourFaces_44 (by decide) ?_
          refine lv_iload_n hx hb dmX13_colourFaces_45 rfl (lv_at hl 2 rfl) ?_
          refine lv_imul hx hb dmX13_colourFaces_46 ?_
          refine tw_iald mX_ok hx hb hK hM (mrn_14 hr1) hq dmX13_colourFaces_47 (fun v3 hq => ?_)
          refine lv_iconst (v := 1) hx hb dmX13_colourFaces_48 (by decide) ?_
          refine tw_iast mX_ok hU hx hb hK hM mr_52 hq dmX13_colourFaces_49 (fun z4 H locs hM hq => ?_)
          refine lv_iconst (v := 1) hx hb dmX13_colourFaces_50 (by decide) ?_
          refine lv_istore (lv' := [(4, .int 1), (0, .ref (u 0)), (1, .ref (u r1)), (2, .int x2), (3, .int x3)]) hx hb dmX13_colourFaces_51 hl (by decide) rfl (fun ls hl => ?_)
          exact ih_2 x2 x3 1 0 0 0 r1 0 0 z4 H locs ls hr1 hM (lv_sub hl [1, 2, 3, 4, 0] rfl) hq
        · have hq := tw_if hq hc
          refine lv_aload_n hx hb dmX13_colourFaces_22 rfl (lv_at hl 0 rfl) ?_
          refine mg13_214 hx hb hT hown hK hM dmX13_colourFaces_23 ?_
          refine lv_iload hx hb dmX13_colourFaces_26 (lv_at hl 4 rfl) ?_
          refine lv_iconst (v := 0) hx hb dmX13_colourFaces_28 (by decide) ?_
          refine tw_iast mX_ok hU hx hb hK hM mr_52 hq dmX13_colourFaces_29 (fun z5 H locs hM hq => ?_)
          refine lv_iinc (v := (x4 + 1)) (lv' := [(4, .int (x4 + 1)), (0, .ref (u 0)), (1, .ref (u r1)), (2, .int x2), (3, .int x3)]) hx hb dmX13_colourFaces_30 hl (k := 4) rfl rfl (by decide) rfl (fun ls hl => ?_)
          refine lv_goto (tgt := 15) hx hb dmX13_colourFaces_33 (by decide) ?_
          exact ih_1 x2 x3 (x4 + 1) 0 0 0 r1 0 0 z5 H locs ls hr1 hM (lv_sub hl [1, 2, 3, 4, 0] rfl) hq
      · intro x2 x3 x4 x5 x6 x7 r1 t0 t1 z H locs ls hr1 hM hl hq
        have hq : qm_X13_colourFaces_2 K (q_X13_colourFaces K k) x2 x3 x4 x5 x6 x7 r1 t0 t1 z = some (r, z1) := hq
        unfold qm_X13_colourFaces_2 at hq
        refine lv_iload hx hb dmX13_colourFaces_53 (lv_at hl 4 rfl) ?_
        refine lv_if_eq (tgt := 203) hx hb dmX13_colourFaces_55 (by decide) (fun hc => ?_) (fun hc => ?_)
        · have hq := tw_it hq hc
          refine lv_iconst (v := 0) hx hb dmX13_colourFaces_203 (by decide) ?_
          refine lv_istore (lv' := [(5, .int 0), (0, .ref (u 0)), (1, .ref (u r1)), (2, .int x2), (3, .int x3), (4, .int x4)]) hx hb dmX13_colourFaces_204 hl (by decide) rfl (fun ls hl => ?_)
          refine lv_iconst (v := 0) hx hb dmX13_colourFaces_206 (by decide) ?_
          refine lv_istore (lv' := [(6, .int 0), (5, .int 0), (0, .ref (u 0)), (1, .ref (u r1)), (2, .int x2), (3, .int x3), (4, .int x4)]) hx hb dmX13_colourFaces_207 hl (by decide) rfl (fun ls hl => ?_)
          exact ih_8 x2 x3 x4 0 0 0 r1 0 0 z H locs ls hr1 hM (lv_sub hl [2, 3, 4, 5, 6, 1, 0] rfl) hq
        · have hq := tw_if hq hc
          refine lv_iconst (v := 0) hx hb dmX13_colourFaces_58 (by decide) ?_
          refine lv_istore (lv' := [(4, .int 0), (0, .ref (u 0)), (1, .ref (u r1)), (2, .int x2), (3, .int x3)]) hx hb dmX13_colourFaces_59 hl (by decide) rfl (fun ls hl => ?_)
          refine lv_iconst (v := 0) hx hb dmX13_colourFaces_61 (by decide) ?_
          refine lv_istore (lv' := [(5, .int 0), (4, .int 0), (0, .ref (u 0)), (1, .ref (u r1)), (2, .int x2), (3, .int x3)]) hx hb dmX13_colourFaces_62 hl (by decide) rfl (fun ls hl => ?_)
          exact ih_3 x2 x3 0 0 0 0 r1 0 0 z H locs ls hr1 hM (lv_sub hl [2, 3, 4, 5, 1, 0] rfl) hq
      · intro x2 x3 x4 x5 x6 x7 r1 t0 t1 z H locs ls hr1 hM hl hq
        have hq : qm_X13_colourFaces_3 K (q_X13_colourFaces K k) x2 x3 x4 x5 x6 x7 r1 t0 t1 z = some (r, z1) := hq
        unfold qm_X13_colourFaces_3 at hq
        refine lv_iload hx hb dmX13_colourFaces_64 (lv_at hl 5 rfl) ?_
        refine lv_aload_n hx hb dmX13_colourFaces_66 rfl (lv_at hl 1 rfl) ?_
        refine mg13_44 hx hb hT hown hK hM hN hr1 hq dmX13_colourFaces_67 (fun v6 hq => ?_)
        refine lv_icmp_ge (tgt := 200) hx hb dmX13_colourFaces_70 (by decide) (fun hc => ?_) (fun hc => ?_)
        · have hq := tw_it hq hc
          refine lv_goto (tgt := 53) hx hb dmX13_colourFaces_200 (by decide) ?_
          exact ih_2 x2 x3 x4 0 0 0 r1 0 0 z H locs ls hr1 hM (lv_sub hl [0, 1, 2, 3, 4] rfl) hq
        · have hq := tw_if hq hc
          refine lv_aload_n hx hb dmX13_colourFaces_73 rfl (lv_at hl 1 rfl) ?_
          refine mg13_525 hx hb hT hown hK hM hN hr1 dmX13_colourFaces_74 ?_
          refine lv_iconst (v := 2) hx hb dmX13_colourFaces_77 (by decide) ?_
          refine lv_iload hx hb dmX13_colourFaces_78 (lv_at hl 5 rfl) ?_
          refine lv_imul hx hb dmX13_colourFaces_80 ?_
          refine tw_iald mX_ok hx hb hK hM (mrn_14 hr1) hq dmX13_colourFaces_81 (fun v7 hq => ?_)
          refine lv_istore (lv' := [(6, .int v7), (0, .ref (u 0)), (1, .ref (u r1)), (2, .int x2), (3, .int x3), (4, .int x4), (5, .int x5)]) hx hb dmX13_colourFaces_82 hl (by decide) rfl (fun ls hl => ?_)
          refine lv_aload_n hx hb dmX13_colourFaces_84 rfl (lv_at hl 2 rfl) ?_
          refine mg13_525 hx hb hT hown hK hM hN hr1 dmX13_colourFaces_85 ?_
          refine lv_iconst (v := 2) hx hb dmX13_colourFaces_88 (by decide) ?_
          refine lv_iload hx hb dmX13_colourFaces_89 (lv_at hl 6 rfl) ?_
          refine lv_imul hx hb dmX13_colourFaces_91 ?_
          refine lv_iconst (v := 1) hx hb dmX13_colourFaces_92 (by decide) ?_
          refine lv_iadd hx hb dmX13_colourFaces_93 ?_
          refine tw_iald mX_ok hx hb hK hM (mrn_14 hr1) hq dmX13_colourFaces_94 (fun v8 hq => ?_)
          refine lv_istore (lv' := [(7, .int v8), (6, .int v7), (0, .ref (u 0)), (1, .ref (u r1)), (2, .int x2), (3, .int x3), (4, .int x4), (5, .int x5)]) hx hb dmX13_colourFaces_95 hl (by decide) rfl (fun ls hl => ?_)
          refine lv_aload_n hx hb dmX13_colourFaces_97 rfl (lv_at hl 3 rfl) ?_
          refine mg13_47 hx hb hT hown hK hM hN hr1 dmX13_colourFaces_98 ?_
          refine lv_aload_n hx hb dmX13_colourFaces_101 rfl (lv_at hl 3 rfl) ?_
          refine mg13_18 hx hb hT hown hK hM hN hr1 dmX13_colourFaces_102 ?_
          refine lv_iload hx hb dmX13_colourFaces_105 (lv_at hl 7 rfl) ?_
          refine tw_iald mX_ok hx hb hK hM (mrn_8 hr1) hq dmX13_colourFaces_107 (fun v9 hq => ?_)
          refine tw_iald mX_ok hx hb hK hM (mrn_12 hr1) hq dmX13_colourFaces_108 (fun v10 hq => ?_)
          refine lv_iload_n hx hb dmX13_colourFaces_109 rfl (lv_at hl 5 rfl) ?_
          refine lv_icmp_ne (tgt := 194) hx hb dmX13_colourFaces_110 (by decide) (fun hc => ?_) (fun hc => ?_)
          · have hq := tw_if hq hc
            exact ih_7 x2 x3 x4 x5 v7 v8 r1 0 0 z H locs ls hr1 hM (lv_sub hl [2, 3, 4, 5, 6, 7, 1, 0] rfl) hq
          · have hq := tw_it hq hc
            refine lv_aload_n hx hb dmX13_colourFaces_113 rfl (lv_at hl 2 rfl) ?_
            refine mg13_214 hx hb hT hown hK hM dmX13_colourFaces_114 ?_
            refine lv_iload hx hb dmX13_colourFaces_117 (lv_at hl 1 rfl) ?_
            refine tw_iald mX_ok hx hb hK hM mr_52 hq dmX13_colourFaces_119 (fun v11 hq => ?_)
            refine lv_if_ne (tgt := 127) hx hb dmX13_colourFaces_120 (by decide) (fun hc => ?_) (fun hc => ?_)
            · have hq := tw_if hq hc
              refine lv_iconst (v := 0) hx hb dmX13_colourFaces_127 (by decide) ?_
              exact ih_4 x2 x3 x4 x5 v7 v8 r1 0 0 z H locs ls hr1 hM (lv_sub hl [2, 3, 4, 5, 6, 7, 1, 0] rfl) hq
            · have hq := tw_it hq hc
              refine lv_iconst (v := 1) hx hb dmX13_colourFaces_123 (by decide) ?_
              refine lv_goto (tgt := 128) hx hb dmX13_colourFaces_124 (by decide) ?_
              exact ih_4 x2 x3 x4 x5 v7 v8 r1 1 0 z H locs ls hr1 hM (lv_sub hl [2, 3, 4, 5, 6, 7, 1, 0] rfl) hq
      · intro x2 x3 x4 x5 x6 x7 r1 t0 t1 z H locs ls hr1 hM hl hq
        have hq : qm_X13_colourFaces_4 K (q_X13_colourFaces K k) x2 x3 x4 x5 x6 x7 r1 t0 t1 z = some (r, z1) := hq
        unfold qm_X13_colourFaces_4 at hq
        refine lv_aload_n hx hb dmX13_colourFaces_128 rfl (lv_at hl 0 rfl) ?_
        refine mg13_214 hx hb hT hown hK hM dmX13_colourFaces_129 ?_
        refine lv_iload hx hb dmX13_colourFaces_132 (lv_at hl 7 rfl) ?_
        refine tw_iald mX_ok hx hb hK hM mr_52 hq dmX13_colourFaces_134 (fun v12 hq => ?_)
        refine lv_if_ne (tgt := 142) hx hb dmX13_colourFaces_135 (by decide) (fun hc => ?_) (fun hc => ?_)
        · have hq := tw_if hq hc
          refine lv_iconst (v := 0) hx hb dmX13_colourFaces_142 (by decide) ?_
          exact ih_5 x2 x3 x4 x5 x6 x7 r1 0 t0 z H locs ls hr1 hM (lv_sub hl [0, 1, 2, 3, 4, 5, 6, 7] rfl) hq
        · have hq := tw_it hq hc
          refine lv_iconst (v := 1) hx hb dmX13_colourFaces_138 (by decide) ?_
          refine lv_goto (tgt := 143) hx hb dmX13_colourFaces_139 (by decide) ?_
          exact ih_5 x2 x3 x4 x5 x6 x7 r1 1 t0 z H locs ls hr1 hM (lv_sub hl [0, 1, 2, 3, 4, 5, 6, 7] rfl) hq
      · intro x2 x3 x4 x5 x6 x7 r1 t0 t1 z H locs ls hr1 hM hl hq
        have hq : qm_X13_colourFaces_5 K (q_X13_colourFaces K k) x2 x3 x4 x5 x6 x7 r1 t0 t1 z = some (r, z1) := hq
        unfold qm_X13_colourFaces_5 at hq
        refine lv_icmp_eq (tgt := 194) hx hb dmX13_colourFaces_143 (by decide) (fun hc => ?_) (fun hc => ?_)
        · have hq := tw_it hq hc
          exact ih_7 x2 x3 x4 x5 x6 x7 r1 0 0 z H locs ls hr1 hM (lv_sub hl [0, 1, 2, 3, 4, 5, 6, 7] rfl) hq
        · have hq := tw_if hq hc
          refine lv_aload_n hx hb dmX13_colourFaces_146 rfl (lv_at hl 0 rfl) ?_
          refine mg13_214 hx hb hT hown hK hM dmX13_colourFaces_147 ?_
          refine lv_iload hx hb dmX13_colourFaces_150 (lv_at hl 6 rfl) ?_
          refine tw_iald mX_ok hx hb hK hM mr_52 hq dmX13_colourFaces_152 (fun v13 hq => ?_)
          refine lv_if_ne (tgt := 175) hx hb dmX13_colourFaces_153 (by decide) (fun hc => ?_) (fun hc => ?_)
          · have hq := tw_if hq hc
            refine lv_aload_n hx hb dmX13_colourFaces_175 rfl (lv_at hl 0 rfl) ?_
            refine mg13_214 hx hb hT hown hK hM dmX13_colourFaces_176 ?_
            refine lv_iload hx hb dmX13_colourFaces_179 (lv_at hl 7 rfl) ?_
            refine lv_iconst (v := 3) hx hb dmX13_colourFaces_181 (by decide) ?_
            refine lv_aload_n hx hb dmX13_colourFaces_182 rfl (lv_at hl 0 rfl) ?_
            refine mg13_214 hx hb hT hown hK hM dmX13_colourFaces_183 ?_
            refine lv_iload hx hb dmX13_colourFaces_186 (lv_at hl 6 rfl) ?_
            refine tw_iald mX_ok hx hb hK hM mr_52 hq dmX13_colourFaces_188 (fun v14 hq => ?_)
            refine lv_isub hx hb dmX13_colourFaces_189 ?_
            refine tw_iast mX_ok hU hx hb hK hM mr_52 hq dmX13_colourFaces_190 (fun z15 H locs hM hq => ?_)
            exact ih_6 x2 x3 x4 x5 x6 x7 r1 0 0 z15 H locs ls hr1 hM (lv_sub hl [0, 1, 2, 3, 4, 5, 6, 7] rfl) hq
          · have hq := tw_it hq hc
            refine lv_aload_n hx hb dmX13_colourFaces_156 rfl (lv_at hl 0 rfl) ?_
            refine mg13_214 hx hb hT hown hK hM dmX13_colourFaces_157 ?_
            refine lv_iload hx hb dmX13_colourFaces_160 (lv_at hl 6 rfl) ?_
            refine lv_iconst (v := 3) hx hb dmX13_colourFaces_162 (by decide) ?_
            refine lv_aload_n hx hb dmX13_colourFaces_163 rfl (lv_at hl 0 rfl) ?_
            refine mg13_214 hx hb hT hown hK hM dmX13_colourFaces_164 ?_
            refine lv_iload hx hb dmX13_colourFaces_167 (lv_at hl 7 rfl) ?_
            refine tw_iald mX_ok hx hb hK hM mr_52 hq dmX13_colourFaces_169 (fun v16 hq => ?_)
            refine lv_isub hx hb dmX13_colourFaces_170 ?_
            refine tw_iast mX_ok hU hx hb hK hM mr_52 hq dmX13_colourFaces_171 (fun z17 H locs hM hq => ?_)
            refine lv_goto (tgt := 191) hx hb dmX13_colourFaces_172 (by decide) ?_
            exact ih_6 x2 x3 x4 x5 x6 x7 r1 0 0 z17 H locs ls hr1 hM (lv_sub hl [0, 1, 2, 3, 4, 5, 6, 7] rfl) hq
      · intro x2 x3 x4 x5 x6 x7 r1 t0 t1 z H locs ls hr1 hM hl hq
        have hq : qm_X13_colourFaces_6 K (q_X13_colourFaces K k) x2 x3 x4 x5 x6 x7 r1 t0 t1 z = some (r, z1) := hq
        unfold qm_X13_colourFaces_6 at hq
        refine lv_iconst (v := 1) hx hb dmX13_colourFaces_191 (by decide) ?_
        refine lv_istore (lv' := [(4, .int 1), (0, .ref (u 0)), (1, .ref (u r1)), (2, .int x2), (3, .int x3), (5, .int x5), (6, .int x6), (7, .int x7)]) hx hb dmX13_colourFaces_192 hl (by decide) rfl (fun ls hl => ?_)
        exact ih_7 x2 x3 1 x5 x6 x7 r1 0 0 z H locs ls hr1 hM (lv_sub hl [1, 2, 3, 4, 0, 5, 6, 7] rfl) hq
      · intro x2 x3 x4 x5 x6 x7 r1 t0 t1 z H locs ls hr1 hM hl hq
        have hq : qm_X13_colourFaces_7 K (q_X13_colourFaces K k) x2 x3 x4 x5 x6 x7 r1 t0 t1 z = some (r, z1) := hq
        unfold qm_X13_colourFaces_7 at hq
        refine lv_iinc (v := (x5 + 1)) (lv' := [(5, .int (x5 + 1)), (0, .ref (u 0)), (1, .ref (u r1)), (2, .int x2), (3, .int x3), (4, .int x4), (6, .int x6), (7, .int x7)]) hx hb dmX13_colourFaces_194 hl (k := 5) rfl rfl (by decide) rfl (fun ls hl => ?_)
        refine lv_goto (tgt := 64) hx hb dmX13_colourFaces_197 (by decide) ?_
        exact ih_3 x2 x3 x4 (x5 + 1) 0 0 r1 0 0 z H locs ls hr1 hM (lv_sub hl [1, 2, 3, 4, 5, 0] rfl) hq
      · intro x2 x3 x4 x5 x6 x7 r1 t0 t1 z H locs ls hr1 hM hl hq
        have hq : qm_X13_colourFaces_8 K (q_X13_colourFaces K k) x2 x3 x4 x5 x6 x7 r1 t0 t1 z = some (r, z1) := hq
        unfold qm_X13_colourFaces_8 at hq
        refine lv_iload hx hb dmX13_colourFaces_209 (lv_at hl 6 rfl) ?_
        refine lv_aload_n hx hb dmX13_colourFaces_211 rfl (lv_at hl 1 rfl) ?_
        refine mg13_519 hx hb hT hown hK hM hN hr1 hq dmX13_colourFaces_212 (fun v18 hq => ?_)
        refine lv_icmp_ge (tgt := 247) hx hb dmX13_colourFaces_215 (by decide) (fun hc => ?_) (fun hc => ?_)
        · have hq := tw_it hq hc
          refine lv_iload hx hb dmX13_colourFaces_247 (lv_at hl 5 rfl) ?_
          exact mw_iret hx hb hr hlocks hM hq hQQ dmX13_colourFaces_249
        · have hq := tw_if hq hc
          refine lv_aload_n hx hb dmX13_colourFaces_218 rfl (lv_at hl 0 rfl) ?_
          refine mg13_214 hx hb hT hown hK hM dmX13_colourFaces_219 ?_
          refine lv_iload hx hb dmX13_colourFaces_222 (lv_at hl 6 rfl) ?_
          refine tw_iald mX_ok hx hb hK hM mr_52 hq dmX13_colourFaces_224 (fun v19 hq => ?_)
          refine lv_iconst (v := 1) hx hb dmX13_colourFaces_225 (by decide) ?_
          refine lv_icmp_ne (tgt := 241) hx hb dmX13_colourFaces_226 (by decide) (fun hc => ?_) (fun hc => ?_)
          · have hq := tw_if hq hc
            exact ih_9 x2 x3 x4 x5 x6 0 r1 0 0 z H locs ls hr1 hM (lv_sub hl [0, 1, 2, 3, 4, 5, 6] rfl) hq
          · have hq := tw_it hq hc
            refine lv_aload_n hx hb dmX13_colourFaces_229 rfl (lv_at hl 0 rfl) ?_
            refine mg13_217 hx hb hT hown hK hM dmX13_colourFaces_230 ?_
            refine lv_iload hx hb dmX13_colourFaces_233 (lv_at hl 6 rfl) ?_
            refine lv_iload hx hb dmX13_colourFaces_235 (lv_at hl 5 rfl) ?_
            refine tw_iast mX_ok hU hx hb hK hM mr_53 hq dmX13_colourFaces_237 (fun z20 H locs hM hq => ?_)
            refine lv_iinc (v := (x5 + 1)) (lv' := [(5, .int (x5 + 1)), (0, .ref (u 0)), (1, .ref (u r1)), (2, .int x2), (3, .int x3), (4, .int x4), (6, .int x6)]) hx hb dmX13_colourFaces_238 hl (k := 5) rfl rfl (by decide) rfl (fun ls hl => ?_)
            exact ih_9 x2 x3 x4 (x5 + 1) x6 0 r1 0 0 z20 H locs ls hr1 hM (lv_sub hl [1, 2, 3, 4, 5, 0, 6] rfl) hq
      · intro x2 x3 x4 x5 x6 x7 r1 t0 t1 z H locs ls hr1 hM hl hq
        have hq : qm_X13_colourFaces_9 K (q_X13_colourFaces K k) x2 x3 x4 x5 x6 x7 r1 t0 t1 z = some (r, z1) := hq
        unfold qm_X13_colourFaces_9 at hq
        refine lv_iinc (v := (x6 + 1)) (lv' := [(6, .int (x6 + 1)), (0, .ref (u 0)), (1, .ref (u r1)), (2, .int x2), (3, .int x3), (4, .int x4), (5, .int x5)]) hx hb dmX13_colourFaces_241 hl (k := 6) rfl rfl (by decide) rfl (fun ls hl => ?_)
        refine lv_goto (tgt := 209) hx hb dmX13_colourFaces_244 (by decide) ?_
        exact ih_8 x2 x3 x4 x5 (x6 + 1) 0 r1 0 0 z H locs ls hr1 hM (lv_sub hl [1, 2, 3, 4, 5, 6, 0] rfl) hq
  exact (key K).1 x2 0 0 0 0 0 r1 0 0 z s.heap [] ls hr1 hM (lv_sub hl [0, 1, 2] rfl) hq
theorem dmX13_changes_0 : decode cX13_changes 0 = .ok (.iconst 0, 1) := dw_at cX13_changes_k0 (p := 0) rfl (by decide +kernel)
theorem dmX13_changes_1 : decode cX13_changes 1 = .ok (.istore_n 3, 1) := dw_at cX13_changes_k0 (p := 1) rfl (by decide +kernel)
theorem dmX13_changes_2 : decode cX13_changes 2 = .ok (.iconst 0, 1) := dw_at cX13_changes_k0 (p := 2) rfl (by decide +kernel)
theorem dmX13_changes_3 : decode cX13_changes 3 = .ok (.istore 4, 2) := dw_at cX13_changes_k0 (p := 3) rfl (by decide +kernel)
theorem dmX13_changes_5 : decode cX13_changes 5 = .ok (.iload_n 1, 1) := dw_at cX13_changes_k0 (p := 5) rfl (by decide +kernel)
theorem dmX13_changes_6 : decode cX13_changes 6 = .ok (.istore 5, 2) := dw_at cX13_changes_k0 (p := 6) rfl (by decide +kernel)
theorem dmX13_changes_8 : decode cX13_changes 8 = .ok (.iload 5, 2) := dw_at cX13_changes_k0 (p := 8) rfl (by decide +kernel)
theorem dmX13_changes_10 : decode cX13_changes 10 = .ok (.ifCond .lt 68, 3) := dw_at cX13_changes_k0 (p := 10) rfl (by decide +kernel)
theorem dmX13_changes_13 : decode cX13_changes 13 = .ok (.aload_n 0, 1) := dw_at cX13_changes_k0 (p := 13) rfl (by decide +kernel)
theorem dmX13_changes_14 : decode cX13_changes 14 = .ok (.getfield 229, 3) := dw_at cX13_changes_k0 (p := 14) rfl (by decide +kernel)
theorem dmX13_changes_17 : decode cX13_changes 17 = .ok (.iload 5, 2) := dw_at cX13_changes_k0 (p := 17) rfl (by decide +kernel)
theorem dmX13_changes_19 : decode cX13_changes 19 = .ok (.laload, 1) := dw_at cX13_changes_k0 (p := 19) rfl (by decide +kernel)
theorem dmX13_changes_20 : decode cX13_changes 20 = .ok (.invokestatic 617, 3) := dw_at cX13_changes_k0 (p := 20) rfl (by decide +kernel)
theorem dmX13_changes_23 : decode cX13_changes 23 = .ok (.istore 6, 2) := dw_at cX13_changes_k0 (p := 23) rfl (by decide +kernel)
theorem dmX13_changes_25 : decode cX13_changes 25 = .ok (.iload_n 2, 1) := dw_at cX13_changes_k1 (p := 0) rfl (by decide +kernel)
theorem dmX13_changes_26 : decode cX13_changes 26 = .ok (.ifCond .eq 17, 3) := dw_at cX13_changes_k1 (p := 1) rfl (by decide +kernel)
theorem dmX13_changes_29 : decode cX13_changes 29 = .ok (.iload 5, 2) := dw_at cX13_changes_k1 (p := 4) rfl (by decide +kernel)
theorem dmX13_changes_31 : decode cX13_changes 31 = .ok (.iconst 1, 1) := dw_at cX13_changes_k1 (p := 6) rfl (by decide +kernel)
theorem dmX13_changes_32 : decode cX13_changes 32 = .ok (.iand, 1) := dw_at cX13_changes_k1 (p := 7) rfl (by decide +kernel)
theorem dmX13_changes_33 : decode cX13_changes 33 = .ok (.iconst 1, 1) := dw_at cX13_changes_k1 (p := 8) rfl (by decide +kernel)
theorem dmX13_changes_34 : decode cX13_changes 34 = .ok (.if_icmp .ne 9, 3) := dw_at cX13_changes_k1 (p := 9) rfl (by decide +kernel)
theorem dmX13_changes_37 : decode cX13_changes 37 = .ok (.iconst 0, 1) := dw_at cX13_changes_k1 (p := 12) rfl (by decide +kernel)
theorem dmX13_changes_38 : decode cX13_changes 38 = .ok (.iload 6, 2) := dw_at cX13_changes_k1 (p := 13) rfl (by decide +kernel)
theorem dmX13_changes_40 : decode cX13_changes 40 = .ok (.isub, 1) := dw_at cX13_changes_k1 (p := 15) rfl (by decide +kernel)
theorem dmX13_changes_41 : decode cX13_changes 41 = .ok (.istore 6, 2) := dw_at cX13_changes_k1 (p := 16) rfl (by decide +kernel)
theorem dmX13_changes_43 : decode cX13_changes 43 = .ok (.iload 6, 2) := dw_at cX13_changes_k1 (p := 18) rfl (by decide +kernel)
theorem dmX13_changes_45 : decode cX13_changes 45 = .ok (.ifCond .eq 27, 3) := dw_at cX13_changes_k1 (p := 20) rfl (by decide +kernel)
theorem dmX13_changes_48 : decode cX13_changes 48 = .ok (.iload_n 3, 1) := dw_at cX13_changes_k1 (p := 23) rfl (by decide +kernel)
theorem dmX13_changes_49 : decode cX13_changes 49 = .ok (.iload 4, 2) := dw_at cX13_changes_k2 (p := 0) rfl (by decide +kernel)
theorem dmX13_changes_51 : decode cX13_changes 51 = .ok (.ifCond .eq 14, 3) := dw_at cX13_changes_k2 (p := 2) rfl (by decide +kernel)
theorem dmX13_changes_54 : decode cX13_changes 54 = .ok (.iload 6, 2) := dw_at cX13_changes_k2 (p := 5) rfl (by decide +kernel)
theorem dmX13_changes_56 : decode cX13_changes 56 = .ok (.iload 4, 2) := dw_at cX13_changes_k2 (p := 7) rfl (by decide +kernel)
theorem dmX13_changes_58 : decode cX13_changes 58 = .ok (.if_icmp .eq 7, 3) := dw_at cX13_changes_k2 (p := 9) rfl (by decide +kernel)
theorem dmX13_changes_61 : decode cX13_changes 61 = .ok (.iconst 1, 1) := dw_at cX13_changes_k2 (p := 12) rfl (by decide +kernel)
theorem dmX13_changes_62 : decode cX13_changes 62 = .ok (.goto 4, 3) := dw_at cX13_changes_k2 (p := 13) rfl (by decide +kernel)
theorem dmX13_changes_65 : decode cX13_changes 65 = .ok (.iconst 0, 1) := dw_at cX13_changes_k2 (p := 16) rfl (by decide +kernel)
theorem dmX13_changes_66 : decode cX13_changes 66 = .ok (.iadd, 1) := dw_at cX13_changes_k2 (p := 17) rfl (by decide +kernel)
theorem dmX13_changes_67 : decode cX13_changes 67 = .ok (.istore_n 3, 1) := dw_at cX13_changes_k2 (p := 18) rfl (by decide +kernel)
theorem dmX13_changes_68 : decode cX13_changes 68 = .ok (.iload 6, 2) := dw_at cX13_changes_k2 (p := 19) rfl (by decide +kernel)
theorem dmX13_changes_70 : decode cX13_changes 70 = .ok (.istore 4, 2) := dw_at cX13_changes_k2 (p := 21) rfl (by decide +kernel)
theorem dmX13_changes_72 : decode cX13_changes 72 = .ok (.iinc 5 (-1), 3) := dw_at cX13_changes_k2 (p := 23) rfl (by decide +kernel)
theorem dmX13_changes_75 : decode cX13_changes 75 = .ok (.goto (-67), 3) := dw_at cX13_changes_k2 (p := 26) rfl (by decide +kernel)
theorem dmX13_changes_78 : decode cX13_changes 78 = .ok (.iload_n 3, 1) := dw_at cX13_changes_k2 (p := 29) rfl (by decide +kernel)
theorem dmX13_changes_79 : decode cX13_changes 79 = .ok (.ireturn, 1) := dw_at cX13_changes_k2 (p := 30) rfl (by decide +kernel)
def qm_X13_changes_0 (K : Nat) (go : Nat → Int32 → Int32 → Int32 → Int32 → Int32 → Int32 → Int32 → Int32 → ow_MS → Option (Int32 × ow_MS)) (x1 : Int32) (x2 : Int32) (x3 : Int32) (x4 : Int32) (x5 : Int32) (x6 : Int32) (t0 : Int32) (t1 : Int32) (z : ow_MS) : Option (Int32 × ow_MS) :=
 go 1 x1 x2 0 0 x1 0 0 0 z
def qm_X13_changes_1 (K : Nat) (go : Nat → Int32 → Int32 → Int32 → Int32 → Int32 → Int32 → Int32 → Int32 → ow_MS → Option (Int32 × ow_MS)) (x1 : Int32) (x2 : Int32) (x3 : Int32) (x4 : Int32) (x5 : Int32) (x6 : Int32) (t0 : Int32) (t1 : Int32) (z : ow_MS) : Option (Int32 × ow_MS) :=
 (if x5 < 0 then some (x3, z)
 else rdJ mX z 57 x5 fun v1 => (if x2 = 0 then go 2 x1 x2 x3 x4 x5 (ow_sgnJ v1) 0 0 z
 else (if (x5 &&& 1) = 1 then go 2 x1 x2 x3 x4 x5 (0 - (ow_sgnJ v1)) 0 0 z
 else go 2 x1 x2 x3 x4 x5 (ow_sgnJ v1) 0 0 z)))
def qm_X13_changes_2 (K : Nat) (go : Nat → Int32 → Int32 → Int32 → Int32 → Int32 → Int32 → Int32 → Int32 → ow_MS → Option (Int32 × ow_MS)) (x1 : Int32) (x2 : Int32) (x3 : Int32) (x4 : Int32) (x5 : Int32) (x6 : Int32) (t0 : Int32) (t1 : Int32) (z : ow_MS) : Option (Int32 × ow_MS) :=
 (if x6 = 0 then go 5 x1 x2 x3 x4 x5 x6 0 0 z
 else (if x4 = 0 then go 3 x1 x2 x3 x4 x5 x6 x3 0 z
 else (if x6 = x4 then go 3 x1 x2 x3 x4 x5 x6 x3 0 z
 else go 4 x1 x2 x3 x4 x5 x6 1 x3 z)))
def qm_X13_changes_3 (K : Nat) (go : Nat → Int32 → Int32 → Int32 → Int32 → Int32 → Int32 → Int32 → Int32 → ow_MS → Option (Int32 × ow_MS)) (x1 : Int32) (x2 : Int32) (x3 : Int32) (x4 : Int32) (x5 : Int32) (x6 : Int32) (t0 : Int32) (t1 : Int32) (z : ow_MS) : Option (Int32 × ow_MS) :=
 go 4 x1 x2 x3 x4 x5 x6 0 t0 z
def qm_X13_changes_4 (K : Nat) (go : Nat → Int32 → Int32 → Int32 → Int32 → Int32 → Int32 → Int32 → Int32 → ow_MS → Option (Int32 × ow_MS)) (x1 : Int32) (x2 : Int32) (x3 : Int32) (x4 : Int32) (x5 : Int32) (x6 : Int32) (t0 : Int32) (t1 : Int32) (z : ow_MS) : Option (Int32 × ow_MS) :=
 go 5 x1 x2 (t1 + t0) x6 x5 x6 0 0 z
def qm_X13_changes_5 (K : Nat) (go : Nat → Int32 → Int32 → Int32 → Int32 → Int32 → Int32 → Int32 → Int32 → ow_MS → Option (Int32 × ow_MS)) (x1 : Int32) (x2 : Int32) (x3 : Int32) (x4 : Int32) (x5 : Int32) (x6 : Int32) (t0 : Int32) (t1 : Int32) (z : ow_MS) : Option (Int32 × ow_MS) :=
 go 1 x1 x2 x3 x4 (x5 + (-1)) 0 0 0 z
def qb_X13_changes (K : Nat) (go : Nat → Int32 → Int32 → Int32 → Int32 → Int32 → Int32 → Int32 → Int32 → ow_MS → Option (Int32 × ow_MS)) (L : Nat) (x1 : Int32) (x2 : Int32) (x3 : Int32) (x4 : Int32) (x5 : Int32) (x6 : Int32) (t0 : Int32) (t1 : Int32) (z : ow_MS) : Option (Int32 × ow_MS) := match L with
  | 0 => qm_X13_changes_0 K go x1 x2 x3 x4 x5 x6 t0 t1 z
  | 1 => qm_X13_changes_1 K go x1 x2 x3 x4 x5 x6 t0 t1 z
  | 2 => qm_X13_changes_2 K go x1 x2 x3 x4 x5 x6 t0 t1 z
  | 3 => qm_X13_changes_3 K go x1 x2 x3 x4 x5 x6 t0 t1 z
  | 4 => qm_X13_changes_4 K go x1 x2 x3 x4 x5 x6 t0 t1 z
  | 5 => qm_X13_changes_5 K go x1 x2 x3 x4 x5 x6 t0 t1 z
  | _ => none
def q_X13_changes (K : Nat) : Nat → Nat → Int32 → Int32 → Int32 → Int32 → Int32 → Int32 → Int32 → Int32 → ow_MS → Option (Int32 × ow_MS)
  | 0 => fun _ _ _ _ _ _ _ _ _ _ => none
  | k + 1 => qb_X13_changes K (q_X13_changes K k)
def qe_X13_changes (K : Nat) (x1 : Int32) (x2 : Int32) (z : ow_MS) : Option (Int32 × ow_MS) := q_X13_changes K K 0 x1 x2 0 0 0 0 0 0 z
abbrev wm_X13_changes : List Cond := .code yX13_changes cX13_changes 7 (some .int) :: wM
theorem cd_X13_changes : yX13_changes.cls = RX13 ∧ yX13_changes.cls ≠ "java/lang/invoke/MethodHandle" ∧ yX13_changes.cls ≠ "java/lang/invoke/VarHandle" ∧ (parseMethodDescriptor yX13_changes.desc).map (fun d => d.parameters.length) = some 2 := by decide +kernel
set_option maxHeartbeats 4000000 in
set_option maxRecDepth 100000 in
theorem km_X13_changes (l : Launch) (D : va_G) (q : ow_Q5) (u : Nat → Nat) (hU : tw_inj mX u) (K : Nat) (x1 : Int32) (x2 : Int32)  (z z1 : ow_MS) (r : Int32) (hq : qe_X13_changes K x1 x2 z = some (r, z1)) : Met l yX13_changes wm_X13_changes ({ frames := 1, cells := 0, slots := 0, locals := 21 } : Room) (va_Pc [.ref (u 0), .int x1, .int x2] (mw_pre D q u z)) (va_Qi (fun x (_ : Unit) => x = r) (fun _ t => va_P D vwCl (tw mX q u z1) t.heap) (tw_A mX u)) 0 0 (tw_A mX u) := by
  refine Met.ofW (cc := cX13_changes) (maxL := 7) (ret := (some .int)) (by decide) rfl ?_
  intro p e s m args below meth c s₁ B hml hv
  obtain ⟨rfl, hP, hK, hN⟩ := hv
  have hx := B.exec
  have hb := B.bytes
  have hr := B.returns
  have hts := atoms_spec (ws := wm_X13_changes) B.pre
  have hT : ∀ w ∈ wM, w.before ([.ref (u 0), .int x1, .int x2] : List Value).toArray s = true := fun w h => hts w (List.mem_cons_of_mem _ h)
  have hown : s.vm.findClass RX13 = some m.cls := findClass_of_methodNamed B.named
  have hlocks := B.notSynchronized
  have hM : tw_M D vwCl mX q s.heap u z s.heap [] := ⟨hP, va_S.rf⟩
  have hl := lv_entry ([.ref (u 0), .int x1, .int x2]) (n := 7) (Nat.le_of_ble_eq_true rfl)
  rw [lg_entry_eq]
  generalize (lg_sl ([.ref (u 0), .int x1, .int x2]) ++ List.replicate (7 - (lg_sl ([.ref (u 0), .int x1, .int x2])).length) Slot.unset).toArray = ls at hl ⊢
  have hl : lv_has ls 7 [(0, .ref (u 0)), (1, .int x1), (2, .int x2)] := hl
  refine ow_named (fun QQ hQQ => ?_)
  generalize ([.ref (u 0), .int x1, .int x2] : List Value).toArray = args at hts hT hQQ ⊢
  have key : ∀ k : Nat, (∀ (x1 : Int32) (x2 : Int32) (x3 : Int32) (x4 : Int32) (x5 : Int32) (x6 : Int32) (t0 : Int32) (t1 : Int32) (z : ow_MS) (H : Heap) (locs : List Loc) (ls : Array Slot), tw_M D vwCl mX q s.heap u z H locs → lv_has ls 7 [(0, .ref (u 0)), (1, .int x1), (2, .int x2)] → q_X13_changes K k 0 x1 x2 x3 x4 x5 x6 t0 t1 z = some (r, z1) → W p l e ({ frames := 1, cells := 0, slots := 0, locals := 21 } : Room) s m args below meth c H locs 0 0 QQ (F0 m 0 ls [])) ∧ (∀ (x1 : Int32) (x2 : Int32) (x3 : Int32) (x4 : Int32) (x5 : Int32) (x6 : Int32) (t0 : Int32) (t1 : Int32) (z : ow_MS) (H : Heap) (locs : List Loc) (ls : Array Slot), tw_M D vwCl mX q s.heap u z H locs → lv_has ls 7 [(0, .ref (u 0)), (1, .int x1), (2, .int x2), (3, .int x3), (4, .int x4), (5, .int x5)] → q_X13_changes K k 1 x1 x2 x3 x4 x5 x6 t0 t1 z = some (r, z1) → W p l e ({ frames := 1, cells := 0, slots := 0, locals := 21 } : Room) s m args below meth c H locs 0 0 QQ (F0 m 8 ls [])) ∧ (∀ (x1 : Int32) (x2 : Int32) (x3 : Int32) (x4 : Int32) (x5 : Int32) (x6 : Int32) (t0 : Int32) (t1 : Int32) (z : ow_MS) (H : Heap) (locs : List Loc) (ls : Array Slot), tw_M D vwCl mX q s.heap u z H locs → lv_has ls 7 [(0, .ref (u 0)), (1, .int x1), (2, .int x2), (3, .int x3), (4, .int x4), (5, .int x5), (6, .int x6)] → q_X13_changes K k 2 x1 x2 x3 x4 x5 x6 t0 t1 z = some (r, z1) → W p l e ({ frames := 1, cells := 0, slots := 0, locals := 21 } : Room) s m args below meth c H locs 0 0 QQ (F0 m 43 ls [])) ∧ (∀ (x1 : Int32) (x2 : Int32) (x3 : Int32) (x4 : Int32) (x5 : Int32) (x6 : Int32) (t0 : Int32) (t1 : Int32) (z : ow_MS) (H : Heap) (locs : List Loc) (ls : Array Slot), tw_M D vwCl mX q s.heap u z H locs → lv_has ls 7 [(0, .ref (u 0)), (1, .int x1), (2, .int x2), (3, .int x3), (4, .int x4), (5, .int x5), (6, .int x6)] → q_X13_changes K k 3 x1 x2 x3 x4 x5 x6 t0 t1 z = some (r, z1) → W p l e ({ frames := 1, cells := 0, slots := 0, locals := 21 } : Room) s m args below meth c H locs 0 0 QQ (F0 m 65 ls [.int t0])) ∧ (∀ (x1 : Int32) (x2 : Int32) (x3 : Int32) (x4 : Int32) (x5 : Int32) (x6 : Int32) (t0 : Int32) (t1 : Int32) (z : ow_MS) (H : Heap) (locs : List Loc) (ls : Array Slot), tw_M D vwCl mX q s.heap u z H locs → lv_has ls 7 [(0, .ref (u 0)), (1, .int x1), (2, .int x2), (3, .int x3), (4, .int x4), (5, .int x5), (6, .int x6)] → q_X13_changes K k 4 x1 x2 x3 x4 x5 x6 t0 t1 z = some (r, z1) → W p l e ({ frames := 1, cells := 0, slots := 0, locals := 21 } : Room) s m args below meth c H locs 0 0 QQ (F0 m 66 ls [.int t0, .int t1])) ∧ (∀ (x1 : Int32) (x2 : Int32) (x3 : Int32) (x4 : Int32) (x5 : Int32) (x6 : Int32) (t0 : Int32) (t1 : Int32) (z : ow_MS) (H : Heap) (locs : List Loc) (ls : Array Slot), tw_M D vwCl mX q s.heap u z H locs → lv_has ls 7 [(0, .ref (u 0)), (1, .int x1), (2, .int x2), (3, .int x3), (4, .int x4), (5, .int x5), (6, .int x6)] → q_X13_changes K k 5 x1 x2 x3 x4 x5 x6 t0 t1 z = some (r, z1) → W p l e ({ frames := 1, cells := 0, slots := 0, locals := 21 } : Room) s m args below meth c H locs 0 0 QQ (F0 m 72 ls [])) := by
    intro k
    induction k with
    | zero => exact ⟨fun _ _ _ _ _ _ _ _ _ _ _ _  _ _ hq => tw_no hq, fun _ _ _ _ _ _ _ _ _ _ _ _  _ _ hq => tw_no hq, fun _ _ _ _ _ _ _ _ _ _ _ _  _ _ hq => tw_no hq, fun _ _ _ _ _ _ _ _ _ _ _ _  _ _ hq => tw_no hq, fun _ _ _ _ _ _ _ _ _ _ _ _  _ _ hq => tw_no hq, fun _ _ _ _ _ _ _ _ _ _ _ _  _ _ hq => tw_no hq⟩
    | succ k ih =>
      obtain ⟨ih_0, ih_1, ih_2, ih_3, ih_4, ih_5⟩ := ih
      refine ⟨?_, ?_, ?_, ?_, ?_, ?_⟩
      · intro x1 x2 x3 x4 x5 x6 t0 t1 z H locs ls  hM hl hq
        have hq : qm_X13_changes_0 K (q_X13_changes K k) x1 x2 x3 x4 x5 x6 t0 t1 z = some (r, z1) := hq
        unfold qm_X13_changes_0 at hq
        refine lv_iconst (v := 0) hx hb dmX13_changes_0 (by decide) ?_
        refine lv_istore_n (lv' := [(3, .int 0), (0, .ref (u 0)), (1, .int x1), (2, .int x2)]) hx hb dmX13_changes_1 rfl hl (by decide) rfl (fun ls hl => ?_)
        refine lv_iconst (v := 0) hx hb dmX13_changes_2 (by decide) ?_
        refine lv_istore (lv' := [(4, .int 0), (3, .int 0), (0, .ref (u 0)), (1, .int x1), (2, .int x2)]) hx hb dmX13_changes_3 hl (by decide) rfl (fun ls hl => ?_)
        refine lv_iload_n hx hb dmX13_changes_5 rfl (lv_at hl 3 rfl) ?_
        refine lv_istore (lv' := [(5, .int x1), (4, .int 0), (3, .int 0), (0, .ref (u 0)), (1, .int x1), (2, .int x2)]) hx hb dmX13_changes_6 hl (by decide) rfl (fun ls hl => ?_)
        exact ih_1 x1 x2 0 0 x1 0 0 0 z H locs ls hM (lv_sub hl [3, 4, 5, 2, 1, 0] rfl) hq
      · intro x1 x2 x3 x4 x5 x6 t0 t1 z H locs ls  hM hl hq
        have hq : qm_X13_changes_1 K (q_X13_changes K k) x1 x2 x3 x4 x5 x6 t0 t1 z = some (r, z1) := hq
        unfold qm_X13_changes_1 at hq
        refine lv_iload hx hb dmX13_changes_8 (lv_at hl 5 rfl) ?_
        refine lv_if_lt (tgt := 78) hx hb dmX13_changes_10 (by decide) (fun hc => ?_) (fun hc => ?_)
        · have hq := tw_it hq hc
          refine lv_iload_n hx hb dmX13_changes_78 rfl (lv_at hl 3 rfl) ?_
          exact mw_iret hx hb hr hlocks hM hq hQQ dmX13_changes_79
        · have hq := tw_if hq hc
          refine lv_aload_n hx hb dmX13_changes_13 rfl (lv_at hl 0 rfl) ?_
          refine mg13_229 hx hb hT hown hK hM dmX13_changes_14 ?_
          refine lv_iload hx hb dmX13_changes_17 (lv_at hl 5 rfl) ?_
          refine tw_lald mX_ok hx hb hK hM mr_57 hq dmX13_changes_19 (fun v1 hq => ?_)
          refine mw_pure hM (va_runS (As := [.long v1]) (rest := []) ⟨hx, hb, hml, hown, hts⟩ (k_J13_signum l v1) (va_cwS 1 hts (mw_gsg wq_345) rfl rfl rfl (by decide +kernel) ⟨(Nat.le_of_ble_eq_true rfl), (Nat.le_of_ble_eq_true rfl)⟩) ⟨fun a U g mk q => q, fun U hU hW => ⟨rfl, trivial⟩⟩ rfl rfl hl.1 rfl (lv_room (Nat.le_of_ble_eq_true rfl)) dmX13_changes_20 ⟨(Nat.le_of_ble_eq_true rfl), (Nat.le_of_ble_eq_true rfl)⟩) (fun H locs hM => ?_)
          refine lv_istore (lv' := [(6, .int (ow_sgnJ v1)), (0, .ref (u 0)), (1, .int x1), (2, .int x2), (3, .int x3), (4, .int x4), (5, .int x5)]) hx hb dmX13_changes_23 hl (by decide) rfl (fun ls hl => ?_)
          refine lv_iload_n hx hb dmX13_changes_25 rfl (lv_at hl 3 rfl) ?_
          refine lv_if_eq (tgt := 43) hx hb dmX13_changes_26 (by decide) (fun hc => ?_) (fun hc => ?_)
          · have hq := tw_it hq hc
            exact ih_2 x1 x2 x3 x4 x5 (ow_sgnJ v1) 0 0 z H locs ls hM (lv_sub hl [1, 2, 3, 4, 5, 6, 0] rfl) hq
          · have hq := tw_if hq hc
            refine lv_iload hx hb dmX13_changes_29 (lv_at hl 6 rfl) ?_
            refine lv_iconst (v := 1) hx hb dmX13_changes_31 (by decide) ?_
            refine lv_iand hx hb dmX13_changes_32 ?_
            refine lv_iconst (v := 1) hx hb dmX13_changes_33 (by decide) ?_
            refine lv_icmp_ne (tgt := 43) hx hb dmX13_changes_34 (by decide) (fun hc => ?_) (fun hc => ?_)
            · have hq := tw_if hq hc
              exact ih_2 x1 x2 x3 x4 x5 (ow_sgnJ v1) 0 0 z H locs ls hM (lv_sub hl [1, 2, 3, 4, 5, 6, 0] rfl) hq
            · have hq := tw_it hq hc
              refine lv_iconst (v := 0) hx hb dmX13_changes_37 (by decide) ?_
              refine lv_iload hx hb dmX13_changes_38 (lv_at hl 0 rfl) ?_
              refine lv_isub hx hb dmX13_changes_40 ?_
              refine lv_istore (lv' := [(6, .int (0 - (ow_sgnJ v1))), (0, .ref (u 0)), (1, .int x1), (2, .int x2), (3, .int x3), (4, .int x4), (5, .int x5)]) hx hb dmX13_changes_41 hl (by decide) rfl (fun ls hl => ?_)
              exact ih_2 x1 x2 x3 x4 x5 (0 - (ow_sgnJ v1)) 0 0 z H locs ls hM (lv_sub hl [1, 2, 3, 4, 5, 6, 0] rfl) hq
      · intro x1 x2 x3 x4 x5 x6 t0 t1 z H locs ls  hM hl hq
        have hq : qm_X13_changes_2 K (q_X13_changes K k) x1 x2 x3 x4 x5 x6 t0 t1 z = some (r, z1) := hq
        unfold qm_X13_changes_2 at hq
        refine lv_iload hx hb dmX13_changes_43 (lv_at hl 6 rfl) ?_
        refine lv_if_eq (tgt := 72) hx hb dmX13_changes_45 (by decide) (fun hc => ?_) (fun hc => ?_)
        · have hq := tw_it hq hc
          exact ih_5 x1 x2 x3 x4 x5 x6 0 0 z H locs ls hM (lv_sub hl [0, 1, 2, 3, 4, 5, 6] rfl) hq
        · have hq := tw_if hq hc
          refine lv_iload_n hx hb dmX13_changes_48 rfl (lv_at hl 3 rfl) ?_
          refine lv_iload hx hb dmX13_changes_49 (lv_at hl 4 rfl) ?_
          refine lv_if_eq (tgt := 65) hx hb dmX13_changes_51 (by decide) (fun hc => ?_) (fun hc => ?_)
          · have hq := tw_it hq hc
            exact ih_3 x1 x2 x3 x4 x5 x6 x3 0 z H locs ls hM (lv_sub hl [0, 1, 2, 3, 4, 5, 6] rfl) hq
          · have hq := tw_if hq hc
            refine lv_iload hx hb dmX13_changes_54 (lv_at hl 6 rfl) ?_
            refine lv_iload hx hb dmX13_changes_56 (lv_at hl 4 rfl) ?_
            refine lv_icmp_eq (tgt := 65) hx hb dmX13_changes_58 (by decide) (fun hc => ?_) (fun hc => ?_)
            · have hq := tw_it hq hc
              exact ih_3 x1 x2 x3 x4 x5 x6 x3 0 z H locs ls hM (lv_sub hl [0, 1, 2, 3, 4, 5, 6] rfl) hq
            · have hq := tw_if hq hc
              refine lv_iconst (v := 1) hx hb dmX13_changes_61 (by decide) ?_
              refine lv_goto (tgt := 66) hx hb dmX13_changes_62 (by decide) ?_
              exact ih_4 x1 x2 x3 x4 x5 x6 1 x3 z H locs ls hM (lv_sub hl [0, 1, 2, 3, 4, 5, 6] rfl) hq
      · intro x1 x2 x3 x4 x5 x6 t0 t1 z H locs ls  hM hl hq
        have hq : qm_X13_changes_3 K (q_X13_changes K k) x1 x2 x3 x4 x5 x6 t0 t1 z = some (r, z1) := hq
        unfold qm_X13_changes_3 at hq
        refine lv_iconst (v := 0) hx hb dmX13_changes_65 (by decide) ?_
        exact ih_4 x1 x2 x3 x4 x5 x6 0 t0 z H locs ls hM (lv_sub hl [0, 1, 2, 3, 4, 5, 6] rfl) hq
      · intro x1 x2 x3 x4 x5 x6 t0 t1 z H locs ls  hM hl hq
        have hq : qm_X13_changes_4 K (q_X13_changes K k) x1 x2 x3 x4 x5 x6 t0 t1 z = some (r, z1) := hq
        unfold qm_X13_changes_4 at hq
        refine lv_iadd hx hb dmX13_changes_66 ?_
        refine lv_istore_n (lv' := [(3, .int (t1 + t0)), (0, .ref (u 0)), (1, .int x1), (2, .int x2), (4, .int x4), (5, .int x5), (6, .int x6)]) hx hb dmX13_changes_67 rfl hl (by decide) rfl (fun ls hl => ?_)
        refine lv_iload hx hb dmX13_changes_68 (lv_at hl 6 rfl) ?_
        refine lv_istore (lv' := [(4, .int x6), (3, .int (t1 + t0)), (0, .ref (u 0)), (1, .int x1), (2, .int x2), (5, .int x5), (6, .int x6)]) hx hb dmX13_changes_70 hl (by decide) rfl (fun ls hl => ?_)
        exact ih_5 x1 x2 (t1 + t0) x6 x5 x6 0 0 z H locs ls hM (lv_sub hl [2, 3, 4, 1, 0, 5, 6] rfl) hq
      · intro x1 x2 x3 x4 x5 x6 t0 t1 z H locs ls  hM hl hq
        have hq : qm_X13_changes_5 K (q_X13_changes K k) x1 x2 x3 x4 x5 x6 t0 t1 z = some (r, z1) := hq
        unfold qm_X13_changes_5 at hq
        refine lv_iinc (v := (x5 + (-1))) (lv' := [(5, .int (x5 + (-1))), (0, .ref (u 0)), (1, .int x1), (2, .int x2), (3, .int x3), (4, .int x4), (6, .int x6)]) hx hb dmX13_changes_72 hl (k := 5) rfl rfl (by decide) rfl (fun ls hl => ?_)
        refine lv_goto (tgt := 8) hx hb dmX13_changes_75 (by decide) ?_
        exact ih_1 x1 x2 x3 x4 (x5 + (-1)) 0 0 0 z H locs ls hM (lv_sub hl [1, 2, 3, 4, 5, 0] rfl) hq
  exact (key K).1 x1 x2 0 0 0 0 0 0 z s.heap [] ls  hM (lv_sub hl [0, 1, 2] rfl) hq
theorem dmX13_times_0 : decode cX13_times 0 = .ok (.iconst 0, 1) := dw_at cX13_times_k0 (p := 0) rfl (by decide +kernel)
theorem dmX13_times_1 : decode cX13_times 1 = .ok (.istore_n 2, 1) := dw_at cX13_times_k0 (p := 1) rfl (by decide +kernel)
theorem dmX13_times_2 : decode cX13_times 2 = .ok (.iload_n 2, 1) := dw_at cX13_times_k0 (p := 2) rfl (by decide +kernel)
theorem dmX13_times_3 : decode cX13_times 3 = .ok (.iload_n 1, 1) := dw_at cX13_times_k0 (p := 3) rfl (by decide +kernel)
theorem dmX13_times_4 : decode cX13_times 4 = .ok (.if_icmp .ge 83, 3) := dw_at cX13_times_k0 (p := 4) rfl (by decide +kernel)
theorem dmX13_times_7 : decode cX13_times 7 = .ok (.iconst 0, 1) := dw_at cX13_times_k0 (p := 7) rfl (by decide +kernel)
theorem dmX13_times_8 : decode cX13_times 8 = .ok (.istore_n 3, 1) := dw_at cX13_times_k0 (p := 8) rfl (by decide +kernel)
theorem dmX13_times_9 : decode cX13_times 9 = .ok (.iload_n 3, 1) := dw_at cX13_times_k0 (p := 9) rfl (by decide +kernel)
theorem dmX13_times_10 : decode cX13_times 10 = .ok (.iload_n 1, 1) := dw_at cX13_times_k0 (p := 10) rfl (by decide +kernel)
theorem dmX13_times_11 : decode cX13_times 11 = .ok (.if_icmp .ge 70, 3) := dw_at cX13_times_k0 (p := 11) rfl (by decide +kernel)
theorem dmX13_times_14 : decode cX13_times 14 = .ok (.lconst 0, 1) := dw_at cX13_times_k0 (p := 14) rfl (by decide +kernel)
theorem dmX13_times_15 : decode cX13_times 15 = .ok (.lstore 4, 2) := dw_at cX13_times_k0 (p := 15) rfl (by decide +kernel)
theorem dmX13_times_17 : decode cX13_times 17 = .ok (.iconst 0, 1) := dw_at cX13_times_k0 (p := 17) rfl (by decide +kernel)
theorem dmX13_times_18 : decode cX13_times 18 = .ok (.istore 6, 2) := dw_at cX13_times_k0 (p := 18) rfl (by decide +kernel)
theorem dmX13_times_20 : decode cX13_times 20 = .ok (.iload 6, 2) := dw_at cX13_times_k0 (p := 20) rfl (by decide +kernel)
theorem dmX13_times_22 : decode cX13_times 22 = .ok (.iload_n 1, 1) := dw_at cX13_times_k0 (p := 22) rfl (by decide +kernel)
theorem dmX13_times_23 : decode cX13_times 23 = .ok (.if_icmp .ge 39, 3) := dw_at cX13_times_k0 (p := 23) rfl (by decide +kernel)
theorem dmX13_times_26 : decode cX13_times 26 = .ok (.lload 4, 2) := dw_at cX13_times_k1 (p := 0) rfl (by decide +kernel)
theorem dmX13_times_28 : decode cX13_times 28 = .ok (.aload_n 0, 1) := dw_at cX13_times_k1 (p := 2) rfl (by decide +kernel)
theorem dmX13_times_29 : decode cX13_times 29 = .ok (.getfield 220, 3) := dw_at cX13_times_k1 (p := 3) rfl (by decide +kernel)
theorem dmX13_times_32 : decode cX13_times 32 = .ok (.bipush 16, 2) := dw_at cX13_times_k1 (p := 6) rfl (by decide +kernel)
theorem dmX13_times_34 : decode cX13_times 34 = .ok (.iload_n 2, 1) := dw_at cX13_times_k1 (p := 8) rfl (by decide +kernel)
theorem dmX13_times_35 : decode cX13_times 35 = .ok (.imul, 1) := dw_at cX13_times_k1 (p := 9) rfl (by decide +kernel)
theorem dmX13_times_36 : decode cX13_times 36 = .ok (.iload 6, 2) := dw_at cX13_times_k1 (p := 10) rfl (by decide +kernel)
theorem dmX13_times_38 : decode cX13_times 38 = .ok (.iadd, 1) := dw_at cX13_times_k1 (p := 12) rfl (by decide +kernel)
theorem dmX13_times_39 : decode cX13_times 39 = .ok (.laload, 1) := dw_at cX13_times_k1 (p := 13) rfl (by decide +kernel)
theorem dmX13_times_40 : decode cX13_times 40 = .ok (.aload_n 0, 1) := dw_at cX13_times_k1 (p := 14) rfl (by decide +kernel)
theorem dmX13_times_41 : decode cX13_times 41 = .ok (.getfield 226, 3) := dw_at cX13_times_k1 (p := 15) rfl (by decide +kernel)
theorem dmX13_times_44 : decode cX13_times 44 = .ok (.bipush 16, 2) := dw_at cX13_times_k1 (p := 18) rfl (by decide +kernel)
theorem dmX13_times_46 : decode cX13_times 46 = .ok (.iload 6, 2) := dw_at cX13_times_k1 (p := 20) rfl (by decide +kernel)
theorem dmX13_times_48 : decode cX13_times 48 = .ok (.imul, 1) := dw_at cX13_times_k1 (p := 22) rfl (by decide +kernel)
theorem dmX13_times_49 : decode cX13_times 49 = .ok (.iload_n 3, 1) := dw_at cX13_times_k1 (p := 23) rfl (by decide +kernel)
theorem dmX13_times_50 : decode cX13_times 50 = .ok (.iadd, 1) := dw_at cX13_times_k2 (p := 0) rfl (by decide +kernel)
theorem dmX13_times_51 : decode cX13_times 51 = .ok (.laload, 1) := dw_at cX13_times_k2 (p := 1) rfl (by decide +kernel)
theorem dmX13_times_52 : decode cX13_times 52 = .ok (.lmul, 1) := dw_at cX13_times_k2 (p := 2) rfl (by decide +kernel)
theorem dmX13_times_53 : decode cX13_times 53 = .ok (.ladd, 1) := dw_at cX13_times_k2 (p := 3) rfl (by decide +kernel)
theorem dmX13_times_54 : decode cX13_times 54 = .ok (.lstore 4, 2) := dw_at cX13_times_k2 (p := 4) rfl (by decide +kernel)
theorem dmX13_times_56 : decode cX13_times 56 = .ok (.iinc 6 1, 3) := dw_at cX13_times_k2 (p := 6) rfl (by decide +kernel)
theorem dmX13_times_59 : decode cX13_times 59 = .ok (.goto (-39), 3) := dw_at cX13_times_k2 (p := 9) rfl (by decide +kernel)
theorem dmX13_times_62 : decode cX13_times 62 = .ok (.aload_n 0, 1) := dw_at cX13_times_k2 (p := 12) rfl (by decide +kernel)
theorem dmX13_times_63 : decode cX13_times 63 = .ok (.getfield 223, 3) := dw_at cX13_times_k2 (p := 13) rfl (by decide +kernel)
theorem dmX13_times_66 : decode cX13_times 66 = .ok (.bipush 16, 2) := dw_at cX13_times_k2 (p := 16) rfl (by decide +kernel)
theorem dmX13_times_68 : decode cX13_times 68 = .ok (.iload_n 2, 1) := dw_at cX13_times_k2 (p := 18) rfl (by decide +kernel)
theorem dmX13_times_69 : decode cX13_times 69 = .ok (.imul, 1) := dw_at cX13_times_k2 (p := 19) rfl (by decide +kernel)
theorem dmX13_times_70 : decode cX13_times 70 = .ok (.iload_n 3, 1) := dw_at cX13_times_k2 (p := 20) rfl (by decide +kernel)
theorem dmX13_times_71 : decode cX13_times 71 = .ok (.iadd, 1) := dw_at cX13_times_k2 (p := 21) rfl (by decide +kernel)
theorem dmX13_times_72 : decode cX13_times 72 = .ok (.lload 4, 2) := dw_at cX13_times_k2 (p := 22) rfl (by decide +kernel)
theorem dmX13_times_74 : decode cX13_times 74 = .ok (.lastore, 1) := dw_at cX13_times_k3 (p := 0) rfl (by decide +kernel)
theorem dmX13_times_75 : decode cX13_times 75 = .ok (.iinc 3 1, 3) := dw_at cX13_times_k3 (p := 1) rfl (by decide +kernel)
theorem dmX13_times_78 : decode cX13_times 78 = .ok (.goto (-69), 3) := dw_at cX13_times_k3 (p := 4) rfl (by decide +kernel)
theorem dmX13_times_81 : decode cX13_times 81 = .ok (.iinc 2 1, 3) := dw_at cX13_times_k3 (p := 7) rfl (by decide +kernel)
theorem dmX13_times_84 : decode cX13_times 84 = .ok (.goto (-82), 3) := dw_at cX13_times_k3 (p := 10) rfl (by decide +kernel)
theorem dmX13_times_87 : decode cX13_times 87 = .ok (.return_, 1) := dw_at cX13_times_k3 (p := 13) rfl (by decide +kernel)
def qm_X13_times_0 (K : Nat) (go : Nat → Int32 → Int32 → Int32 → Int32 → Int64 → ow_MS → Option ow_MS) (x1 : Int32) (x2 : Int32) (x3 : Int32) (x6 : Int32) (w4 : Int64) (z : ow_MS) : Option ow_MS :=
 go 1 x1 0 0 0 0 z
def qm_X13_times_1 (K : Nat) (go : Nat → Int32 → Int32 → Int32 → Int32 → Int64 → ow_MS → Option ow_MS) (x1 : Int32) (x2 : Int32) (x3 : Int32) (x6 : Int32) (w4 : Int64) (z : ow_MS) : Option ow_MS :=
 (if x1 ≤ x2 then some z
 else go 2 x1 x2 0 0 0 z)
def qm_X13_times_2 (K : Nat) (go : Nat → Int32 → Int32 → Int32 → Int32 → Int64 → ow_MS → Option ow_MS) (x1 : Int32) (x2 : Int32) (x3 : Int32) (x6 : Int32) (w4 : Int64) (z : ow_MS) : Option ow_MS :=
 (if x1 ≤ x3 then go 1 x1 (x2 + 1) 0 0 0 z
 else go 3 x1 x2 x3 0 0 z)
def qm_X13_times_3 (K : Nat) (go : Nat → Int32 → Int32 → Int32 → Int32 → Int64 → ow_MS → Option ow_MS) (x1 : Int32) (x2 : Int32) (x3 : Int32) (x6 : Int32) (w4 : Int64) (z : ow_MS) : Option ow_MS :=
 (if x1 ≤ x6 then wrJ mX z 55 ((16 * x2) + x3) w4 fun z1 => go 2 x1 x2 (x3 + 1) 0 0 z1
 else rdJ mX z 54 ((16 * x2) + x6) fun v2 => rdJ mX z 56 ((16 * x6) + x3) fun v3 => go 3 x1 x2 x3 (x6 + 1) (w4 + (v2 * v3)) z)
def qb_X13_times (K : Nat) (go : Nat → Int32 → Int32 → Int32 → Int32 → Int64 → ow_MS → Option ow_MS) (L : Nat) (x1 : Int32) (x2 : Int32) (x3 : Int32) (x6 : Int32) (w4 : Int64) (z : ow_MS) : Option ow_MS := match L with
  | 0 => qm_X13_times_0 K go x1 x2 x3 x6 w4 z
  | 1 => qm_X13_times_1 K go x1 x2 x3 x6 w4 z
  | 2 => qm_X13_times_2 K go x1 x2 x3 x6 w4 z
  | 3 => qm_X13_times_3 K go x1 x2 x3 x6 w4 z
  | _ => none
def q_X13_times (K : Nat) : Nat → Nat → Int32 → Int32 → Int32 → Int32 → Int64 → ow_MS → Option ow_MS
  | 0 => fun _ _ _ _ _ _ _ => none
  | k + 1 => qb_X13_times K (q_X13_times K k)
def qe_X13_times (K : Nat) (x1 : Int32) (z : ow_MS) : Option ow_MS := q_X13_times K K 0 x1 0 0 0 0 z
abbrev wm_X13_times : List Cond := .code yX13_times cX13_times 7 none :: wM
theorem cd_X13_times : yX13_times.cls = RX13 ∧ yX13_times.cls ≠ "java/lang/invoke/MethodHandle" ∧ yX13_times.cls ≠ "java/lang/invoke/VarHandle" ∧ (parseMethodDescriptor yX13_times.desc).map (fun d => d.parameters.length) = some 1 := by decide +kernel
set_option maxHeartbeats 4000000 in
set_option maxRecDepth 100000 in
theorem km_X13_times (l : Launch) (D : va_G) (q : ow_Q5) (u : Nat → Nat) (hU : tw_inj mX u) (K : Nat) (x1 : Int32)  (z z1 : ow_MS) (hq : qe_X13_times K x1 z = some z1) : Met l yX13_times wm_X13_times ({ frames := 0, cells := 0, slots := 0, locals := 0 } : Room) (va_Pc [.ref (u 0), .int x1] (mw_pre D q u z)) (va_Qv (fun (_ : Unit) => True) (fun _ t => va_P D vwCl (tw mX q u z1) t.heap) (tw_A mX u)) 0 0 (tw_A mX u) := by
  refine Met.ofW (cc := cX13_times) (maxL := 7) (ret := none) (by decide) rfl ?_
  intro p e s m args below meth c s₁ B hml hv
  obtain ⟨rfl, hP, hK, hN⟩ := hv
  have hx := B.exec
  have hb := B.bytes
  have hr := B.returns
  have hts := atoms_spec (ws := wm_X13_times) B.pre
  have hT : ∀ w ∈ wM, w.before ([.ref (u 0), .int x1] : List Value).toArray s = true := fun w h => hts w (List.mem_cons_of_mem _ h)
  have hown : s.vm.findClass RX13 = some m.cls := findClass_of_methodNamed B.named
  have hlocks := B.notSynchronized
  have hM : tw_M D vwCl mX q s.heap u z s.heap [] := ⟨hP, va_S.rf⟩
  have hl := lv_entry ([.ref (u 0), .int x1]) (n := 7) (Nat.le_of_ble_eq_true rfl)
  rw [lg_entry_eq]
  generalize (lg_sl ([.ref (u 0), .int x1]) ++ List.replicate (7 - (lg_sl ([.ref (u 0), .int x1])).length) Slot.unset).toArray = ls at hl ⊢
  have hl : lv_has ls 7 [(0, .ref (u 0)), (1, .int x1)] := hl
  refine ow_named (fun QQ hQQ => ?_)
  generalize ([.ref (u 0), .int x1] : List Value).toArray = args at hts hT hQQ ⊢
  have key : ∀ k : Nat, (∀ (x1 : Int32) (x2 : Int32) (x3 : Int32) (x6 : Int32) (w4 : Int64) (z : ow_MS) (H : Heap) (locs : List Loc) (ls : Array Slot), tw_M D vwCl mX q s.heap u z H locs → lv_has ls 7 [(0, .ref (u 0)), (1, .int x1)] → q_X13_times K k 0 x1 x2 x3 x6 w4 z = some z1 → W p l e ({ frames := 0, cells := 0, slots := 0, locals := 0 } : Room) s m args below meth c H locs 0 0 QQ (F0 m 0 ls [])) ∧ (∀ (x1 : Int32) (x2 : Int32) (x3 : Int32) (x6 : Int32) (w4 : Int64) (z : ow_MS) (H : Heap) (locs : List Loc) (ls : Array Slot), tw_M D vwCl mX q s.heap u z H locs → lv_has ls 7 [(0, .ref (u 0)), (1, .int x1), (2, .int x2)] → q_X13_times K k 1 x1 x2 x3 x6 w4 z = some z1 → W p l e ({ frames := 0, cells := 0, slots := 0, locals := 0 } : Room) s m args below meth c H locs 0 0 QQ (F0 m 2 ls [])) ∧ (∀ (x1 : Int32) (x2 : Int32) (x3 : Int32) (x6 : Int32) (w4 : Int64) (z : ow_MS) (H : Heap) (locs : List Loc) (ls : Array Slot), tw_M D vwCl mX q s.heap u z H locs → lv_has ls 7 [(0, .ref (u 0)), (1, .int x1), (2, .int x2), (3, .int x3)] → q_X13_times K k 2 x1 x2 x3 x6 w4 z = some z1 → W p l e ({ frames := 0, cells := 0, slots := 0, locals := 0 } : Room) s m args below meth c H locs 0 0 QQ (F0 m 9 ls [])) ∧ (∀ (x1 : Int32) (x2 : Int32) (x3 : Int32) (x6 : Int32) (w4 : Int64) (z : ow_MS) (H : Heap) (locs : List Loc) (ls : Array Slot), tw_M D vwCl mX q s.heap u z H locs → lv_has ls 7 [(0, .ref (u 0)), (1, .int x1), (2, .int x2), (3, .int x3), (4, .long w4), (6, .int x6)] → q_X13_times K k 3 x1 x2 x3 x6 w4 z = some z1 → W p l e ({ frames := 0, cells := 0, slots := 0, locals := 0 } : Room) s m args below meth c H locs 0 0 QQ (F0 m 20 ls [])) := by
    intro k
    induction k with
    | zero => exact ⟨fun _ _ _ _ _ _ _ _ _  _ _ hq => tw_no hq, fun _ _ _ _ _ _ _ _ _  _ _ hq => tw_no hq, fun _ _ _ _ _ _ _ _ _  _ _ hq => tw_no hq, fun _ _ _ _ _ _ _ _ _  _ _ hq => tw_no hq⟩
    | succ k ih =>
      obtain ⟨ih_0, ih_1, ih_2, ih_3⟩ := ih
      refine ⟨?_, ?_, ?_, ?_⟩
      · intro x1 x2 x3 x6 w4 z H locs ls  hM hl hq
        have hq : qm_X13_times_0 K (q_X13_times K k) x1 x2 x3 x6 w4 z = some z1 := hq
        unfold qm_X13_times_0 at hq
        refine lv_iconst (v := 0) hx hb dmX13_times_0 (by decide) ?_
        refine lv_istore_n (lv' := [(2, .int 0), (0, .ref (u 0)), (1, .int x1)]) hx hb dmX13_times_1 rfl hl (by decide) rfl (fun ls hl => ?_)
        exact ih_1 x1 0 0 0 0 z H locs ls hM (lv_sub hl [1, 2, 0] rfl) hq
      · intro x1 x2 x3 x6 w4 z H locs ls  hM hl hq
        have hq : qm_X13_times_1 K (q_X13_times K k) x1 x2 x3 x6 w4 z = some z1 := hq
        unfold qm_X13_times_1 at hq
        refine lv_iload_n hx hb dmX13_times_2 rfl (lv_at hl 2 rfl) ?_
        refine lv_iload_n hx hb dmX13_times_3 rfl (lv_at hl 1 rfl) ?_
        refine lv_icmp_ge (tgt := 87) hx hb dmX13_times_4 (by decide) (fun hc => ?_) (fun hc => ?_)
        · have hq := tw_it hq hc
          exact mw_vret hx hb hr hlocks hM hq hQQ dmX13_times_87
        · have hq := tw_if hq hc
          refine lv_iconst (v := 0) hx hb dmX13_times_7 (by decide) ?_
          refine lv_istore_n (lv' := [(3, .int 0), (0, .ref (u 0)), (1, .int x1), (2, .int x2)]) hx hb dmX13_times_8 rfl hl (by decide) rfl (fun ls hl => ?_)
          exact ih_2 x1 x2 0 0 0 z H locs ls hM (lv_sub hl [1, 2, 3, 0] rfl) hq
      · intro x1 x2 x3 x6 w4 z H locs ls  hM hl hq
        have hq : qm_X13_times_2 K (q_X13_times K k) x1 x2 x3 x6 w4 z = some z1 := hq
        unfold qm_X13_times_2 at hq
        refine lv_iload_n hx hb dmX13_times_9 rfl (lv_at hl 3 rfl) ?_
        refine lv_iload_n hx hb dmX13_times_10 rfl (lv_at hl 1 rfl) ?_
        refine lv_icmp_ge (tgt := 81) hx hb dmX13_times_11 (by decide) (fun hc => ?_) (fun hc => ?_)
        · have hq := tw_it hq hc
          refine lv_iinc (v := (x2 + 1)) (lv' := [(2, .int (x2 + 1)), (0, .ref (u 0)), (1, .int x1), (3, .int x3)]) hx hb dmX13_times_81 hl (k := 2) rfl rfl (by decide) rfl (fun ls hl => ?_)
          refine lv_goto (tgt := 2) hx hb dmX13_times_84 (by decide) ?_
          exact ih_1 x1 (x2 + 1) 0 0 0 z H locs ls hM (lv_sub hl [1, 2, 0] rfl) hq
        · have hq := tw_if hq hc
          refine lv_lconst (v := 0) hx hb dmX13_times_14 rfl ?_
          refine lv_lstore (lv' := [(4, .long 0), (0, .ref (u 0)), (1, .int x1), (2, .int x2), (3, .int x3)]) hx hb dmX13_times_15 hl (by decide) rfl (fun ls hl => ?_)
          refine lv_iconst (v := 0) hx hb dmX13_times_17 (by decide) ?_
          refine lv_istore (lv' := [(6, .int 0), (4, .long 0), (0, .ref (u 0)), (1, .int x1), (2, .int x2), (3, .int x3)]) hx hb dmX13_times_18 hl (by decide) rfl (fun ls hl => ?_)
          exact ih_3 x1 x2 x3 0 0 z H locs ls hM (lv_sub hl [2, 3, 4, 5, 1, 0] rfl) hq
      · intro x1 x2 x3 x6 w4 z H locs ls  hM hl hq
        have hq : qm_X13_times_3 K (q_X13_times K k) x1 x2 x3 x6 w4 z = some z1 := hq
        unfold qm_X13_times_3 at hq
        refine lv_iload hx hb dmX13_times_20 (lv_at hl 5 rfl) ?_
        refine lv_iload_n hx hb dmX13_times_22 rfl (lv_at hl 1 rfl) ?_
        refine lv_icmp_ge (tgt := 62) hx hb dmX13_times_23 (by decide) (fun hc => ?_) (fun hc => ?_)
        · have hq := tw_it hq hc
          refine lv_aload_n hx hb dmX13_times_62 rfl (lv_at hl 0 rfl) ?_
          refine mg13_223 hx hb hT hown hK hM dmX13_times_63 ?_
          refine lv_bipush (v := 16) hx hb dmX13_times_66 (by decide) ?_
          refine lv_iload_n hx hb dmX13_times_68 rfl (lv_at hl 2 rfl) ?_
          refine lv_imul hx hb dmX13_times_69 ?_
          refine lv_iload_n hx hb dmX13_times_70 rfl (lv_at hl 3 rfl) ?_
          refine lv_iadd hx hb dmX13_times_71 ?_
          refine lv_lload hx hb dmX13_times_72 (lv_at hl 4 rfl) ?_
          refine tw_last mX_ok hU hx hb hK hM mr_55 hq dmX13_times_74 (fun z1 H locs hM hq => ?_)
          refine lv_iinc (v := (x3 + 1)) (lv' := [(3, .int (x3 + 1)), (0, .ref (u 0)), (1, .int x1), (2, .int x2), (4, .long w4), (6, .int x6)]) hx hb dmX13_times_75 hl (k := 3) rfl rfl (by decide) rfl (fun ls hl => ?_)
          refine lv_goto (tgt := 9) hx hb dmX13_times_78 (by decide) ?_
          exact ih_2 x1 x2 (x3 + 1) 0 0 z1 H locs ls hM (lv_sub hl [1, 2, 3, 0] rfl) hq
        · have hq := tw_if hq hc
          refine lv_lload hx hb dmX13_times_26 (lv_at hl 4 rfl) ?_
          refine lv_aload_n hx hb dmX13_times_28 rfl (lv_at hl 0 rfl) ?_
          refine mg13_220 hx hb hT hown hK hM dmX13_times_29 ?_
          refine lv_bipush (v := 16) hx hb dmX13_times_32 (by decide) ?_
          refine lv_iload_n hx hb dmX13_times_34 rfl (lv_at hl 2 rfl) ?_
          refine lv_imul hx hb dmX13_times_35 ?_
          refine lv_iload hx hb dmX13_times_36 (lv_at hl 5 rfl) ?_
          refine lv_iadd hx hb dmX13_times_38 ?_
          refine tw_lald mX_ok hx hb hK hM mr_54 hq dmX13_times_39 (fun v2 hq => ?_)
          refine lv_aload_n hx hb dmX13_times_40 rfl (lv_at hl 0 rfl) ?_
          refine mg13_226 hx hb hT hown hK hM dmX13_times_41 ?_
          refine lv_bipush (v := 16) hx hb dmX13_times_44 (by decide) ?_
          refine lv_iload hx hb dmX13_times_46 (lv_at hl 5 rfl) ?_
          refine lv_imul hx hb dmX13_times_48 ?_
          refine lv_iload_n hx hb dmX13_times_49 rfl (lv_at hl 3 rfl) ?_
          refine lv_iadd hx hb dmX13_times_50 ?_
          refine tw_lald mX_ok hx hb hK hM mr_56 hq dmX13_times_51 (fun v3 hq => ?_)
          refine lv_lmul hx hb dmX13_times_52 ?_
          refine lv_ladd hx hb dmX13_times_53 ?_
          refine lv_lstore (lv' := [(4, .long (w4 + (v2 * v3))), (0, .ref (u 0)), (1, .int x1), (2, .int x2), (3, .int x3), (6, .int x6)]) hx hb dmX13_times_54 hl (by decide) rfl (fun ls hl => ?_)
          refine lv_iinc (v := (x6 + 1)) (lv' := [(6, .int (x6 + 1)), (4, .long (w4 + (v2 * v3))), (0, .ref (u 0)), (1, .int x1), (2, .int x2), (3, .int x3)]) hx hb dmX13_times_56 hl (k := 5) rfl rfl (by decide) rfl (fun ls hl => ?_)
          refine lv_goto (tgt := 20) hx hb dmX13_times_59 (by decide) ?_
          exact ih_3 x1 x2 x3 (x6 + 1) (w4 + (v2 * v3)) z H locs ls hM (lv_sub hl [2, 3, 4, 5, 1, 0] rfl) hq
  exact (key K).1 x1 0 0 0 0 z s.heap [] ls  hM (lv_sub hl [0, 1] rfl) hq
theorem dmX13_rootsOf_0 : decode cX13_rootsOf 0 = .ok (.iconst 0, 1) := dw_at cX13_rootsOf_k0 (p := 0) rfl (by decide +kernel)
theorem dmX13_rootsOf_1 : decode cX13_rootsOf 1 = .ok (.istore_n 2, 1) := dw_at cX13_rootsOf_k0 (p := 1) rfl (by decide +kernel)
theorem dmX13_rootsOf_2 : decode cX13_rootsOf 2 = .ok (.iload_n 2, 1) := dw_at cX13_rootsOf_k0 (p := 2) rfl (by decide +kernel)
theorem dmX13_rootsOf_3 : decode cX13_rootsOf 3 = .ok (.sipush 256, 3) := dw_at cX13_rootsOf_k0 (p := 3) rfl (by decide +kernel)
theorem dmX13_rootsOf_6 : decode cX13_rootsOf 6 = .ok (.if_icmp .ge 16, 3) := dw_at cX13_rootsOf_k0 (p := 6) rfl (by decide +kernel)
theorem dmX13_rootsOf_9 : decode cX13_rootsOf 9 = .ok (.aload_n 0, 1) := dw_at cX13_rootsOf_k0 (p := 9) rfl (by decide +kernel)
theorem dmX13_rootsOf_10 : decode cX13_rootsOf 10 = .ok (.getfield 226, 3) := dw_at cX13_rootsOf_k0 (p := 10) rfl (by decide +kernel)
theorem dmX13_rootsOf_13 : decode cX13_rootsOf 13 = .ok (.iload_n 2, 1) := dw_at cX13_rootsOf_k0 (p := 13) rfl (by decide +kernel)
theorem dmX13_rootsOf_14 : decode cX13_rootsOf 14 = .ok (.lconst 0, 1) := dw_at cX13_rootsOf_k0 (p := 14) rfl (by decide +kernel)
theorem dmX13_rootsOf_15 : decode cX13_rootsOf 15 = .ok (.lastore, 1) := dw_at cX13_rootsOf_k0 (p := 15) rfl (by decide +kernel)
theorem dmX13_rootsOf_16 : decode cX13_rootsOf 16 = .ok (.iinc 2 1, 3) := dw_at cX13_rootsOf_k0 (p := 16) rfl (by decide +kernel)
theorem dmX13_rootsOf_19 : decode cX13_rootsOf 19 = .ok (.goto (-17), 3) := dw_at cX13_rootsOf_k0 (p := 19) rfl (by decide +kernel)
theorem dmX13_rootsOf_22 : decode cX13_rootsOf 22 = .ok (.aload_n 0, 1) := dw_at cX13_rootsOf_k0 (p := 22) rfl (by decide +kernel)
theorem dmX13_rootsOf_23 : decode cX13_rootsOf 23 = .ok (.getfield 229, 3) := dw_at cX13_rootsOf_k0 (p := 23) rfl (by decide +kernel)
theorem dmX13_rootsOf_26 : decode cX13_rootsOf 26 = .ok (.iload_n 1, 1) := dw_at cX13_rootsOf_k1 (p := 0) rfl (by decide +kernel)
theorem dmX13_rootsOf_27 : decode cX13_rootsOf 27 = .ok (.lconst 1, 1) := dw_at cX13_rootsOf_k1 (p := 1) rfl (by decide +kernel)
theorem dmX13_rootsOf_28 : decode cX13_rootsOf 28 = .ok (.lastore, 1) := dw_at cX13_rootsOf_k1 (p := 2) rfl (by decide +kernel)
theorem dmX13_rootsOf_29 : decode cX13_rootsOf 29 = .ok (.iconst 1, 1) := dw_at cX13_rootsOf_k1 (p := 3) rfl (by decide +kernel)
theorem dmX13_rootsOf_30 : decode cX13_rootsOf 30 = .ok (.istore_n 2, 1) := dw_at cX13_rootsOf_k1 (p := 4) rfl (by decide +kernel)
theorem dmX13_rootsOf_31 : decode cX13_rootsOf 31 = .ok (.iload_n 2, 1) := dw_at cX13_rootsOf_k1 (p := 5) rfl (by decide +kernel)
theorem dmX13_rootsOf_32 : decode cX13_rootsOf 32 = .ok (.iload_n 1, 1) := dw_at cX13_rootsOf_k1 (p := 6) rfl (by decide +kernel)
theorem dmX13_rootsOf_33 : decode cX13_rootsOf 33 = .ok (.if_icmp .gt 136, 3) := dw_at cX13_rootsOf_k1 (p := 7) rfl (by decide +kernel)
theorem dmX13_rootsOf_36 : decode cX13_rootsOf 36 = .ok (.aload_n 0, 1) := dw_at cX13_rootsOf_k1 (p := 10) rfl (by decide +kernel)
theorem dmX13_rootsOf_37 : decode cX13_rootsOf 37 = .ok (.iload_n 1, 1) := dw_at cX13_rootsOf_k1 (p := 11) rfl (by decide +kernel)
theorem dmX13_rootsOf_38 : decode cX13_rootsOf 38 = .ok (.invokevirtual 610, 3) := dw_at cX13_rootsOf_k1 (p := 12) rfl (by decide +kernel)
theorem dmX13_rootsOf_41 : decode cX13_rootsOf 41 = .ok (.iconst 0, 1) := dw_at cX13_rootsOf_k1 (p := 15) rfl (by decide +kernel)
theorem dmX13_rootsOf_42 : decode cX13_rootsOf 42 = .ok (.istore_n 3, 1) := dw_at cX13_rootsOf_k1 (p := 16) rfl (by decide +kernel)
theorem dmX13_rootsOf_43 : decode cX13_rootsOf 43 = .ok (.iload_n 3, 1) := dw_at cX13_rootsOf_k1 (p := 17) rfl (by decide +kernel)
theorem dmX13_rootsOf_44 : decode cX13_rootsOf 44 = .ok (.iload_n 1, 1) := dw_at cX13_rootsOf_k1 (p := 18) rfl (by decide +kernel)
theorem dmX13_rootsOf_45 : decode cX13_rootsOf 45 = .ok (.if_icmp .ge 69, 3) := dw_at cX13_rootsOf_k1 (p := 19) rfl (by decide +kernel)
theorem dmX13_rootsOf_48 : decode cX13_rootsOf 48 = .ok (.iconst 0, 1) := dw_at cX13_rootsOf_k1 (p := 22) rfl (by decide +kernel)
theorem dmX13_rootsOf_49 : decode cX13_rootsOf 49 = .ok (.istore 4, 2) := dw_at cX13_rootsOf_k1 (p := 23) rfl (by decide +kernel)
theorem dmX13_rootsOf_51 : decode cX13_rootsOf 51 = .ok (.iload 4, 2) := dw_at cX13_rootsOf_k2 (p := 0) rfl (by decide +kernel)
theorem dmX13_rootsOf_53 : decode cX13_rootsOf 53 = .ok (.iload_n 1, 1) := dw_at cX13_rootsOf_k2 (p := 2) rfl (by decide +kernel)
theorem dmX13_rootsOf_54 : decode cX13_rootsOf 54 = .ok (.if_icmp .ge 54, 3) := dw_at cX13_rootsOf_k2 (p := 3) rfl (by decide +kernel)
theorem dmX13_rootsOf_57 : decode cX13_rootsOf 57 = .ok (.aload_n 0, 1) := dw_at cX13_rootsOf_k2 (p := 6) rfl (by decide +kernel)
theorem dmX13_rootsOf_58 : decode cX13_rootsOf 58 = .ok (.getfield 226, 3) := dw_at cX13_rootsOf_k2 (p := 7) rfl (by decide +kernel)
theorem dmX13_rootsOf_61 : decode cX13_rootsOf 61 = .ok (.bipush 16, 2) := dw_at cX13_rootsOf_k2 (p := 10) rfl (by decide +kernel)
theorem dmX13_rootsOf_63 : decode cX13_rootsOf 63 = .ok (.iload_n 3, 1) := dw_at cX13_rootsOf_k2 (p := 12) rfl (by decide +kernel)
theorem dmX13_rootsOf_64 : decode cX13_rootsOf 64 = .ok (.imul, 1) := dw_at cX13_rootsOf_k2 (p := 13) rfl (by decide +kernel)
theorem dmX13_rootsOf_65 : decode cX13_rootsOf 65 = .ok (.iload 4, 2) := dw_at cX13_rootsOf_k2 (p := 14) rfl (by decide +kernel)
theorem dmX13_rootsOf_67 : decode cX13_rootsOf 67 = .ok (.iadd, 1) := dw_at cX13_rootsOf_k2 (p := 16) rfl (by decide +kernel)
theorem dmX13_rootsOf_68 : decode cX13_rootsOf 68 = .ok (.aload_n 0, 1) := dw_at cX13_rootsOf_k2 (p := 17) rfl (by decide +kernel)
theorem dmX13_rootsOf_69 : decode cX13_rootsOf 69 = .ok (.getfield 223, 3) := dw_at cX13_rootsOf_k2 (p := 18) rfl (by decide +kernel)
theorem dmX13_rootsOf_72 : decode cX13_rootsOf 72 = .ok (.bipush 16, 2) := dw_at cX13_rootsOf_k2 (p := 21) rfl (by decide +kernel)
theorem dmX13_rootsOf_74 : decode cX13_rootsOf 74 = .ok (.iload_n 3, 1) := dw_at cX13_rootsOf_k2 (p := 23) rfl (by decide +kernel)
theorem dmX13_rootsOf_75 : decode cX13_rootsOf 75 = .ok (.imul, 1) := dw_at cX13_rootsOf_k3 (p := 0) rfl (by decide +kernel)
theorem dmX13_rootsOf_76 : decode cX13_rootsOf 76 = .ok (.iload 4, 2) := dw_at cX13_rootsOf_k3 (p := 1) rfl (by decide +kernel)
theorem dmX13_rootsOf_78 : decode cX13_rootsOf 78 = .ok (.iadd, 1) := dw_at cX13_rootsOf_k3 (p := 3) rfl (by decide +kernel)
theorem dmX13_rootsOf_79 : decode cX13_rootsOf 79 = .ok (.laload, 1) := dw_at cX13_rootsOf_k3 (p := 4) rfl (by decide +kernel)
theorem dmX13_rootsOf_80 : decode cX13_rootsOf 80 = .ok (.iload_n 3, 1) := dw_at cX13_rootsOf_k3 (p := 5) rfl (by decide +kernel)
theorem dmX13_rootsOf_81 : decode cX13_rootsOf 81 = .ok (.iload 4, 2) := dw_at cX13_rootsOf_k3 (p := 6) rfl (by decide +kernel)
theorem dmX13_rootsOf_83 : decode cX13_rootsOf 83 = .ok (.if_icmp .ne 16, 3) := dw_at cX13_rootsOf_k3 (p := 8) rfl (by decide +kernel)
theorem dmX13_rootsOf_86 : decode cX13_rootsOf 86 = .ok (.aload_n 0, 1) := dw_at cX13_rootsOf_k3 (p := 11) rfl (by decide +kernel)
theorem dmX13_rootsOf_87 : decode cX13_rootsOf 87 = .ok (.getfield 229, 3) := dw_at cX13_rootsOf_k3 (p := 12) rfl (by decide +kernel)
theorem dmX13_rootsOf_90 : decode cX13_rootsOf 90 = .ok (.iload_n 1, 1) := dw_at cX13_rootsOf_k3 (p := 15) rfl (by decide +kernel)
theorem dmX13_rootsOf_91 : decode cX13_rootsOf 91 = .ok (.iload_n 2, 1) := dw_at cX13_rootsOf_k3 (p := 16) rfl (by decide +kernel)
theorem dmX13_rootsOf_92 : decode cX13_rootsOf 92 = .ok (.isub, 1) := dw_at cX13_rootsOf_k3 (p := 17) rfl (by decide +kernel)
theorem dmX13_rootsOf_93 : decode cX13_rootsOf 93 = .ok (.iconst 1, 1) := dw_at cX13_rootsOf_k3 (p := 18) rfl (by decide +kernel)
theorem dmX13_rootsOf_94 : decode cX13_rootsOf 94 = .ok (.iadd, 1) := dw_at cX13_rootsOf_k3 (p := 19) rfl (by decide +kernel)
theorem dmX13_rootsOf_95 : decode cX13_rootsOf 95 = .ok (.laload, 1) := dw_at cX13_rootsOf_k3 (p := 20) rfl (by decide +kernel)
theorem dmX13_rootsOf_96 : decode cX13_rootsOf 96 = .ok (.goto 4, 3) := dw_at cX13_rootsOf_k3 (p := 21) rfl (by decide +kernel)
theorem dmX13_rootsOf_99 : decode cX13_rootsOf 99 = .ok (.lconst 0, 1) := dw_at cX13_rootsOf_k4 (p := 0) rfl (by decide +kernel)
theorem dmX13_rootsOf_100 : decode cX13_rootsOf 100 = .ok (.ladd, 1) := dw_at cX13_rootsOf_k4 (p := 1) rfl (by decide +kernel)
theorem dmX13_rootsOf_101 : decode cX13_rootsOf 101 = .ok (.lastore, 1) := dw_at cX13_rootsOf_k4 (p := 2) rfl (by decide +kernel)
theorem dmX13_rootsOf_102 : decode cX13_rootsOf 102 = .ok (.iinc 4 1, 3) := dw_at cX13_rootsOf_k4 (p := 3) rfl (by decide +kernel)
theorem dmX13_rootsOf_105 : decode cX13_rootsOf 105 = .ok (.goto (-54), 3) := dw_at cX13_rootsOf_k4 (p := 6) rfl (by decide +kernel)
theorem dmX13_rootsOf_108 : decode cX13_rootsOf 108 = .ok (.iinc 3 1, 3) := dw_at cX13_rootsOf_k4 (p := 9) rfl (by decide +kernel)
theorem dmX13_rootsOf_111 : decode cX13_rootsOf 111 = .ok (.goto (-68), 3) := dw_at cX13_rootsOf_k4 (p := 12) rfl (by decide +kernel)
theorem dmX13_rootsOf_114 : decode cX13_rootsOf 114 = .ok (.aload_n 0, 1) := dw_at cX13_rootsOf_k4 (p := 15) rfl (by decide +kernel)
theorem dmX13_rootsOf_115 : decode cX13_rootsOf 115 = .ok (.iload_n 1, 1) := dw_at cX13_rootsOf_k4 (p := 16) rfl (by decide +kernel)
theorem dmX13_rootsOf_116 : decode cX13_rootsOf 116 = .ok (.invokevirtual 610, 3) := dw_at cX13_rootsOf_k4 (p := 17) rfl (by decide +kernel)
theorem dmX13_rootsOf_119 : decode cX13_rootsOf 119 = .ok (.lconst 0, 1) := dw_at cX13_rootsOf_k4 (p := 20) rfl (by decide +kernel)
theorem dmX13_rootsOf_120 : decode cX13_rootsOf 120 = .ok (.lstore_n 3, 1) := dw_at cX13_rootsOf_k4 (p := 21) rfl (by decide +kernel)
theorem dmX13_rootsOf_121 : decode cX13_rootsOf 121 = .ok (.iconst 0, 1) := dw_at cX13_rootsOf_k4 (p := 22) rfl (by decide +kernel)
theorem dmX13_rootsOf_122 : decode cX13_rootsOf 122 = .ok (.istore 5, 2) := dw_at cX13_rootsOf_k4 (p := 23) rfl (by decide +kernel)
theorem dmX13_rootsOf_124 : decode cX13_rootsOf 124 = .ok (.iload 5, 2) := dw_at cX13_rootsOf_k5 (p := 0) rfl (by decide +kernel)
theorem dmX13_rootsOf_126 : decode cX13_rootsOf 126 = .ok (.iload_n 1, 1) := dw_at cX13_rootsOf_k5 (p := 2) rfl (by decide +kernel)
theorem dmX13_rootsOf_127 : decode cX13_rootsOf 127 = .ok (.if_icmp .ge 22, 3) := dw_at cX13_rootsOf_k5 (p := 3) rfl (by decide +kernel)
theorem dmX13_rootsOf_130 : decode cX13_rootsOf 130 = .ok (.lload_n 3, 1) := dw_at cX13_rootsOf_k5 (p := 6) rfl (by decide +kernel)
theorem dmX13_rootsOf_131 : decode cX13_rootsOf 131 = .ok (.aload_n 0, 1) := dw_at cX13_rootsOf_k5 (p := 7) rfl (by decide +kernel)
theorem dmX13_rootsOf_132 : decode cX13_rootsOf 132 = .ok (.getfield 223, 3) := dw_at cX13_rootsOf_k5 (p := 8) rfl (by decide +kernel)
theorem dmX13_rootsOf_135 : decode cX13_rootsOf 135 = .ok (.bipush 17, 2) := dw_at cX13_rootsOf_k5 (p := 11) rfl (by decide +kernel)
theorem dmX13_rootsOf_137 : decode cX13_rootsOf 137 = .ok (.iload 5, 2) := dw_at cX13_rootsOf_k5 (p := 13) rfl (by decide +kernel)
theorem dmX13_rootsOf_139 : decode cX13_rootsOf 139 = .ok (.imul, 1) := dw_at cX13_rootsOf_k5 (p := 15) rfl (by decide +kernel)
theorem dmX13_rootsOf_140 : decode cX13_rootsOf 140 = .ok (.laload, 1) := dw_at cX13_rootsOf_k5 (p := 16) rfl (by decide +kernel)
theorem dmX13_rootsOf_141 : decode cX13_rootsOf 141 = .ok (.ladd, 1) := dw_at cX13_rootsOf_k5 (p := 17) rfl (by decide +kernel)
theorem dmX13_rootsOf_142 : decode cX13_rootsOf 142 = .ok (.lstore_n 3, 1) := dw_at cX13_rootsOf_k5 (p := 18) rfl (by decide +kernel)
theorem dmX13_rootsOf_143 : decode cX13_rootsOf 143 = .ok (.iinc 5 1, 3) := dw_at cX13_rootsOf_k5 (p := 19) rfl (by decide +kernel)
theorem dmX13_rootsOf_146 : decode cX13_rootsOf 146 = .ok (.goto (-22), 3) := dw_at cX13_rootsOf_k5 (p := 22) rfl (by decide +kernel)
theorem dmX13_rootsOf_149 : decode cX13_rootsOf 149 = .ok (.aload_n 0, 1) := dw_at cX13_rootsOf_k6 (p := 0) rfl (by decide +kernel)
theorem dmX13_rootsOf_150 : decode cX13_rootsOf 150 = .ok (.getfield 229, 3) := dw_at cX13_rootsOf_k6 (p := 1) rfl (by decide +kernel)
theorem dmX13_rootsOf_153 : decode cX13_rootsOf 153 = .ok (.iload_n 1, 1) := dw_at cX13_rootsOf_k6 (p := 4) rfl (by decide +kernel)
theorem dmX13_rootsOf_154 : decode cX13_rootsOf 154 = .ok (.iload_n 2, 1) := dw_at cX13_rootsOf_k6 (p := 5) rfl (by decide +kernel)
theorem dmX13_rootsOf_155 : decode cX13_rootsOf 155 = .ok (.isub, 1) := dw_at cX13_rootsOf_k6 (p := 6) rfl (by decide +kernel)
theorem dmX13_rootsOf_156 : decode cX13_rootsOf 156 = .ok (.lconst 0, 1) := dw_at cX13_rootsOf_k6 (p := 7) rfl (by decide +kernel)
theorem dmX13_rootsOf_157 : decode cX13_rootsOf 157 = .ok (.lload_n 3, 1) := dw_at cX13_rootsOf_k6 (p := 8) rfl (by decide +kernel)
theorem dmX13_rootsOf_158 : decode cX13_rootsOf 158 = .ok (.iload_n 2, 1) := dw_at cX13_rootsOf_k6 (p := 9) rfl (by decide +kernel)
theorem dmX13_rootsOf_159 : decode cX13_rootsOf 159 = .ok (.i2l, 1) := dw_at cX13_rootsOf_k6 (p := 10) rfl (by decide +kernel)
theorem dmX13_rootsOf_160 : decode cX13_rootsOf 160 = .ok (.ldiv, 1) := dw_at cX13_rootsOf_k6 (p := 11) rfl (by decide +kernel)
theorem dmX13_rootsOf_161 : decode cX13_rootsOf 161 = .ok (.lsub, 1) := dw_at cX13_rootsOf_k6 (p := 12) rfl (by decide +kernel)
theorem dmX13_rootsOf_162 : decode cX13_rootsOf 162 = .ok (.lastore, 1) := dw_at cX13_rootsOf_k6 (p := 13) rfl (by decide +kernel)
theorem dmX13_rootsOf_163 : decode cX13_rootsOf 163 = .ok (.iinc 2 1, 3) := dw_at cX13_rootsOf_k6 (p := 14) rfl (by decide +kernel)
theorem dmX13_rootsOf_166 : decode cX13_rootsOf 166 = .ok (.goto (-135), 3) := dw_at cX13_rootsOf_k6 (p := 17) rfl (by decide +kernel)
theorem dmX13_rootsOf_169 : decode cX13_rootsOf 169 = .ok (.aload_n 0, 1) := dw_at cX13_rootsOf_k6 (p := 20) rfl (by decide +kernel)
theorem dmX13_rootsOf_170 : decode cX13_rootsOf 170 = .ok (.iload_n 1, 1) := dw_at cX13_rootsOf_k6 (p := 21) rfl (by decide +kernel)
theorem dmX13_rootsOf_171 : decode cX13_rootsOf 171 = .ok (.iconst 0, 1) := dw_at cX13_rootsOf_k6 (p := 22) rfl (by decide +kernel)
theorem dmX13_rootsOf_172 : decode cX13_rootsOf 172 = .ok (.invokevirtual 613, 3) := dw_at cX13_rootsOf_k6 (p := 23) rfl (by decide +kernel)
theorem dmX13_rootsOf_175 : decode cX13_rootsOf 175 = .ok (.aload_n 0, 1) := dw_at cX13_rootsOf_k7 (p := 0) rfl (by decide +kernel)
theorem dmX13_rootsOf_176 : decode cX13_rootsOf 176 = .ok (.iload_n 1, 1) := dw_at cX13_rootsOf_k7 (p := 1) rfl (by decide +kernel)
theorem dmX13_rootsOf_177 : decode cX13_rootsOf 177 = .ok (.iconst 1, 1) := dw_at cX13_rootsOf_k7 (p := 2) rfl (by decide +kernel)
theorem dmX13_rootsOf_178 : decode cX13_rootsOf 178 = .ok (.invokevirtual 613, 3) := dw_at cX13_rootsOf_k7 (p := 3) rfl (by decide +kernel)
theorem dmX13_rootsOf_181 : decode cX13_rootsOf 181 = .ok (.isub, 1) := dw_at cX13_rootsOf_k7 (p := 6) rfl (by decide +kernel)
theorem dmX13_rootsOf_182 : decode cX13_rootsOf 182 = .ok (.ireturn, 1) := dw_at cX13_rootsOf_k7 (p := 7) rfl (by decide +kernel)
def qm_X13_rootsOf_0 (K : Nat) (go : Nat → Int32 → Int32 → Int32 → Int32 → Int32 → Int64 → Int32 → Int64 → Int64 → ow_MS → Option (Int32 × ow_MS)) (x1 : Int32) (x2 : Int32) (x3 : Int32) (x4 : Int32) (x5 : Int32) (w3 : Int64) (t2 : Int32) (y0 : Int64) (y1 : Int64) (z : ow_MS) : Option (Int32 × ow_MS) :=
 go 1 x1 0 0 0 0 0 0 0 0 z
def qm_X13_rootsOf_1 (K : Nat) (go : Nat → Int32 → Int32 → Int32 → Int32 → Int32 → Int64 → Int32 → Int64 → Int64 → ow_MS → Option (Int32 × ow_MS)) (x1 : Int32) (x2 : Int32) (x3 : Int32) (x4 : Int32) (x5 : Int32) (w3 : Int64) (t2 : Int32) (y0 : Int64) (y1 : Int64) (z : ow_MS) : Option (Int32 × ow_MS) :=
 (if 256 ≤ x2 then wrJ mX z 57 x1 1 fun z1 => go 2 x1 1 0 0 0 0 0 0 0 z1
 else wrJ mX z 56 x2 0 fun z2 => go 1 x1 (x2 + 1) 0 0 0 0 0 0 0 z2)
def qm_X13_rootsOf_2 (K : Nat) (go : Nat → Int32 → Int32 → Int32 → Int32 → Int32 → Int64 → Int32 → Int64 → Int64 → ow_MS → Option (Int32 × ow_MS)) (x1 : Int32) (x2 : Int32) (x3 : Int32) (x4 : Int32) (x5 : Int32) (w3 : Int64) (t2 : Int32) (y0 : Int64) (y1 : Int64) (z : ow_MS) : Option (Int32 × ow_MS) :=
 (if x1 < x2 then cs1 (qe_X13_changes K x1 0 z) fun v4 z3 => cs1 (qe_X13_changes K x1 1 z3) fun v6 z5 => some ((v4 - v6), z5)
 else cs0 (qe_X13_times K x1 z) fun z7 => go 3 x1 x2 0 0 0 0 0 0 0 z7)
def qm_X13_rootsOf_3 (K : Nat) (go : Nat → Int32 → Int32 → Int32 → Int32 → Int32 → Int64 → Int32 → Int64 → Int64 → ow_MS → Option (Int32 × ow_MS)) (x1 : Int32) (x2 : Int32) (x3 : Int32) (x4 : Int32) (x5 : Int32) (w3 : Int64) (t2 : Int32) (y0 : Int64) (y1 : Int64) (z : ow_MS) : Option (Int32 × ow_MS) :=
 (if x1 ≤ x3 then cs0 (qe_X13_times K x1 z) fun z8 => go 6 x1 x2 0 0 0 0 0 0 0 z8
 else go 4 x1 x2 x3 0 0 0 0 0 0 z)
def qm_X13_rootsOf_4 (K : Nat) (go : Nat → Int32 → Int32 → Int32 → Int32 → Int32 → Int64 → Int32 → Int64 → Int64 → ow_MS → Option (Int32 × ow_MS)) (x1 : Int32) (x2 : Int32) (x3 : Int32) (x4 : Int32) (x5 : Int32) (w3 : Int64) (t2 : Int32) (y0 : Int64) (y1 : Int64) (z : ow_MS) : Option (Int32 × ow_MS) :=
 (if x1 ≤ x4 then go 3 x1 x2 (x3 + 1) 0 0 0 0 0 0 z
 else rdJ mX z 55 ((16 * x3) + x4) fun v9 => (if x3 = x4 then rdJ mX z 57 ((x1 - x2) + 1) fun v10 => go 5 x1 x2 x3 x4 0 0 ((16 * x3) + x4) v10 v9 z
 else go 5 x1 x2 x3 x4 0 0 ((16 * x3) + x4) 0 v9 z))
def qm_X13_rootsOf_5 (K : Nat) (go : Nat → Int32 → Int32 → Int32 → Int32 → Int32 → Int64 → Int32 → Int64 → Int64 → ow_MS → Option (Int32 × ow_MS)) (x1 : Int32) (x2 : Int32) (x3 : Int32) (x4 : Int32) (x5 : Int32) (w3 : Int64) (t2 : Int32) (y0 : Int64) (y1 : Int64) (z : ow_MS) : Option (Int32 × ow_MS) :=
 wrJ mX z 56 t2 (y1 + y0) fun z11 => go 4 x1 x2 x3 (x4 + 1) 0 0 0 0 0 z11
def qm_X13_rootsOf_6 (K : Nat) (go : Nat → Int32 → Int32 → Int32 → Int32 → Int32 → Int64 → Int32 → Int64 → Int64 → ow_MS → Option (Int32 × ow_MS)) (x1 : Int32) (x2 : Int32) (x3 : Int32) (x4 : Int32) (x5 : Int32) (w3 : Int64) (t2 : Int32) (y0 : Int64) (y1 : Int64) (z : ow_MS) : Option (Int32 × ow_MS) :=
 (if x1 ≤ x5 then nzJ x2.toInt64 (wrJ mX z 57 (x1 - x2) (0 - (w3 / x2.toInt64)) fun z12 => go 2 x1 (x2 + 1) 0 0 0 0 0 0 0 z12)
 else rdJ mX z 55 (17 * x5) fun v13 => go 6 x1 x2 0 0 (x5 + 1) (w3 + v13) 0 0 0 z)
def qb_X13_rootsOf (K : Nat) (go : Nat → Int32 → Int32 → Int32 → Int32 → Int32 → Int64 → Int32 → Int64 → Int64 → ow_MS → Option (Int32 × ow_MS)) (L : Nat) (x1 : Int32) (x2 : Int32) (x3 : Int32) (x4 : Int32) (x5 : Int32) (w3 : Int64) (t2 : Int32) (y0 : Int64) (y1 : Int64) (z : ow_MS) : Option (Int32 × ow_MS) := match L with
  | 0 => qm_X13_rootsOf_0 K go x1 x2 x3 x4 x5 w3 t2 y0 y1 z
  | 1 => qm_X13_rootsOf_1 K go x1 x2 x3 x4 x5 w3 t2 y0 y1 z
  | 2 => qm_X13_rootsOf_2 K go x1 x2 x3 x4 x5 w3 t2 y0 y1 z
  | 3 => qm_X13_rootsOf_3 K go x1 x2 x3 x4 x5 w3 t2 y0 y1 z
  | 4 => qm_X13_rootsOf_4 K go x1 x2 x3 x4 x5 w3 t2 y0 y1 z
  | 5 => qm_X13_rootsOf_5 K go x1 x2 x3 x4 x5 w3 t2 y0 y1 z
  | 6 => qm_X13_rootsOf_6 K go x1 x2 x3 x4 x5 w3 t2 y0 y1 z
  | _ => none
def q_X13_rootsOf (K : Nat) : Nat → Nat → Int32 → Int32 → Int32 → Int32 → Int32 → Int64 → Int32 → Int64 → Int64 → ow_MS → Option (Int32 × ow_MS)
  | 0 => fun _ _ _ _ _ _ _ _ _ _ _ => none
  | k + 1 => qb_X13_rootsOf K (q_X13_rootsOf K k)
def qe_X13_rootsOf (K : Nat) (x1 : Int32) (z : ow_MS) : Option (Int32 × ow_MS) := q_X13_rootsOf K K 0 x1 0 0 0 0 0 0 0 0 z
abbrev wm_X13_rootsOf : List Cond := .code yX13_rootsOf cX13_rootsOf 6 (some .int) :: wM
theorem cd_X13_rootsOf : yX13_rootsOf.cls = RX13 ∧ yX13_rootsOf.cls ≠ "java/lang/invoke/MethodHandle" ∧ yX13_rootsOf.cls ≠ "java/lang/invoke/VarHandle" ∧ (parseMethodDescriptor yX13_rootsOf.desc).map (fun d => d.parameters.length) = some 1 := by decide +kernel
set_option maxHeartbeats 4000000 in
set_option maxRecDepth 100000 in
theorem km_X13_rootsOf (l : Launch) (D : va_G) (q : ow_Q5) (u : Nat → Nat) (hU : tw_inj mX u) (K : Nat) (x1 : Int32)  (z z1 : ow_MS) (r : Int32) (hq : qe_X13_rootsOf K x1 z = some (r, z1)) : Met l yX13_rootsOf wm_X13_rootsOf ({ frames := 2, cells := 0, slots := 0, locals := 47 } : Room) (va_Pc [.ref (u 0), .int x1] (mw_pre D q u z)) (va_Qi (fun x (_ : Unit) => x = r) (fun _ t => va_P D vwCl (tw mX q u z1) t.heap) (tw_A mX u)) 0 0 (tw_A mX u) := by
  refine Met.ofW (cc := cX13_rootsOf) (maxL := 6) (ret := (some .int)) (by decide) rfl ?_
  intro p e s m args below meth c s₁ B hml hv
  obtain ⟨rfl, hP, hK, hN⟩ := hv
  have hx := B.exec
  have hb := B.bytes
  have hr := B.returns
  have hts := atoms_spec (ws := wm_X13_rootsOf) B.pre
  have hT : ∀ w ∈ wM, w.before ([.ref (u 0), .int x1] : List Value).toArray s = true := fun w h => hts w (List.mem_cons_of_mem _ h)
  have hown : s.vm.findClass RX13 = some m.cls := findClass_of_methodNamed B.named
  have hlocks := B.notSynchronized
  have hM : tw_M D vwCl mX q s.heap u z s.heap [] := ⟨hP, va_S.rf⟩
  have hl := lv_entry ([.ref (u 0), .int x1]) (n := 6) (Nat.le_of_ble_eq_true rfl)
  rw [lg_entry_eq]
  generalize (lg_sl ([.ref (u 0), .int x1]) ++ List.replicate (6 - (lg_sl ([.ref (u 0), .int x1])).length) Slot.unset).toArray = ls at hl ⊢
  have hl : lv_has ls 6 [(0, .ref (u 0)), (1, .int x1)] := hl
  refine ow_named (fun QQ hQQ => ?_)
  generalize ([.ref (u 0), .int x1] : List Value).toArray = args at hts hT hQQ ⊢
  have key : ∀ k : Nat, (∀ (x1 : Int32) (x2 : Int32) (x3 : Int32) (x4 : Int32) (x5 : Int32) (w3 : Int64) (t2 : Int32) (y0 : Int64) (y1 : Int64) (z : ow_MS) (H : Heap) (locs : List Loc) (ls : Array Slot), tw_M D vwCl mX q s.heap u z H locs → lv_has ls 6 [(0, .ref (u 0)), (1, .int x1)] → q_X13_rootsOf K k 0 x1 x2 x3 x4 x5 w3 t2 y0 y1 z = some (r, z1) → W p l e ({ frames := 2, cells := 0, slots := 0, locals := 47 } : Room) s m args below meth c H locs 0 0 QQ (F0 m 0 ls [])) ∧ (∀ (x1 : Int32) (x2 : Int32) (x3 : Int32) (x4 : Int32) (x5 : Int32) (w3 : Int64) (t2 : Int32) (y0 : Int64) (y1 : Int64) (z : ow_MS) (H : Heap) (locs : List Loc) (ls : Array Slot), tw_M D vwCl mX q s.heap u z H locs → lv_has ls 6 [(0, .ref (u 0)), (1, .int x1), (2, .int x2)] → q_X13_rootsOf K k 1 x1 x2 x3 x4 x5 w3 t2 y0 y1 z = some (r, z1) → W p l e ({ frames := 2, cells := 0, slots := 0, locals := 47 } : Room) s m args below meth c H locs 0 0 QQ (F0 m 2 ls [])) ∧ (∀ (x1 : Int32) (x2 : Int32) (x3 : Int32) (x4 : Int32) (x5 : Int32) (w3 : Int64) (t2 : Int32) (y0 : Int64) (y1 : Int64) (z : ow_MS) (H : Heap) (locs : List Loc) (ls : Array Slot), tw_M D vwCl mX q s.heap u z H locs → lv_has ls 6 [(0, .ref (u 0)), (1, .int x1), (2, .int x2)] → q_X13_rootsOf K k 2 x1 x2 x3 x4 x5 w3 t2 y0 y1 z = some (r, z1) → W p l e ({ frames := 2, cells := 0, slots := 0, locals := 47 } : Room) s m args below meth c H locs 0 0 QQ (F0 m 31 ls [])) ∧ (∀ (x1 : Int32) (x2 : Int32) (x3 : Int32) (x4 : Int32) (x5 : Int32) (w3 : Int64) (t2 : Int32) (y0 : Int64) (y1 : Int64) (z : ow_MS) (H : Heap) (locs : List Loc) (ls : Array Slot), tw_M D vwCl mX q s.heap u z H locs → lv_has ls 6 [(0, .ref (u 0)), (1, .int x1), (2, .int x2), (3, .int x3)] → q_X13_rootsOf K k 3 x1 x2 x3 x4 x5 w3 t2 y0 y1 z = some (r, z1) → W p l e ({ frames := 2, cells := 0, slots := 0, locals := 47 } : Room) s m args below meth c H locs 0 0 QQ (F0 m 43 ls [])) ∧ (∀ (x1 : Int32) (x2 : Int32) (x3 : Int32) (x4 : Int32) (x5 : Int32) (w3 : Int64) (t2 : Int32) (y0 : Int64) (y1 : Int64) (z : ow_MS) (H : Heap) (locs : List Loc) (ls : Array Slot), tw_M D vwCl mX q s.heap u z H locs → lv_has ls 6 [(0, .ref (u 0)), (1, .int x1), (2, .int x2), (3, .int x3), (4, .int x4)] → q_X13_rootsOf K k 4 x1 x2 x3 x4 x5 w3 t2 y0 y1 z = some (r, z1) → W p l e ({ frames := 2, cells := 0, slots := 0, locals := 47 } : Room) s m args below meth c H locs 0 0 QQ (F0 m 51 ls [])) ∧ (∀ (x1 : Int32) (x2 : Int32) (x3 : Int32) (x4 : Int32) (x5 : Int32) (w3 : Int64) (t2 : Int32) (y0 : Int64) (y1 : Int64) (z : ow_MS) (H : Heap) (locs : List Loc) (ls : Array Slot), tw_M D vwCl mX q s.heap u z H locs → lv_has ls 6 [(0, .ref (u 0)), (1, .int x1), (2, .int x2), (3, .int x3), (4, .int x4)] → q_X13_rootsOf K k 5 x1 x2 x3 x4 x5 w3 t2 y0 y1 z = some (r, z1) → W p l e ({ frames := 2, cells := 0, slots := 0, locals := 47 } : Room) s m args below meth c H locs 0 0 QQ (F0 m 100 ls [.long y0, .long y1, .int t2, .ref (u 56)])) ∧ (∀ (x1 : Int32) (x2 : Int32) (x3 : Int32) (x4 : Int32) (x5 : Int32) (w3 : Int64) (t2 : Int32) (y0 : Int64) (y1 : Int64) (z : ow_MS) (H : Heap) (locs : List Loc) (ls : Array Slot), tw_M D vwCl mX q s.heap u z H locs → lv_has ls 6 [(0, .ref (u 0)), (1, .int x1), (2, .int x2), (3, .long w3), (5, .int x5)] → q_X13_rootsOf K k 6 x1 x2 x3 x4 x5 w3 t2 y0 y1 z = some (r, z1) → W p l e ({ frames := 2, cells := 0, slots := 0, locals := 47 } : Room) s m args below meth c H locs 0 0 QQ (F0 m 124 ls [])) := by
    intro k
    induction k with
    | zero => exact ⟨fun _ _ _ _ _ _ _ _ _ _ _ _ _  _ _ hq => tw_no hq, fun _ _ _ _ _ _ _ _ _ _ _ _ _  _ _ hq => tw_no hq, fun _ _ _ _ _ _ _ _ _ _ _ _ _  _ _ hq => tw_no hq, fun _ _ _ _ _ _ _ _ _ _ _ _ _  _ _ hq => tw_no hq, fun _ _ _ _ _ _ _ _ _ _ _ _ _  _ _ hq => tw_no hq, fun _ _ _ _ _ _ _ _ _ _ _ _ _  _ _ hq => tw_no hq, fun _ _ _ _ _ _ _ _ _ _ _ _ _  _ _ hq => tw_no hq⟩
    | succ k ih =>
      obtain ⟨ih_0, ih_1, ih_2, ih_3, ih_4, ih_5, ih_6⟩ := ih
      refine ⟨?_, ?_, ?_, ?_, ?_, ?_, ?_⟩
      · intro x1 x2 x3 x4 x5 w3 t2 y0 y1 z H locs ls  hM hl hq
        have hq : qm_X13_rootsOf_0 K (q_X13_rootsOf K k) x1 x2 x3 x4 x5 w3 t2 y0 y1 z = some (r, z1) := hq
        unfold qm_X13_rootsOf_0 at hq
        refine lv_iconst (v := 0) hx hb dmX13_rootsOf_0 (by decide) ?_
        refine lv_istore_n (lv' := [(2, .int 0), (0, .ref (u 0)), (1, .int x1)]) hx hb dmX13_rootsOf_1 rfl hl (by decide) rfl (fun ls hl => ?_)
        exact ih_1 x1 0 0 0 0 0 0 0 0 z H locs ls hM (lv_sub hl [1, 2, 0] rfl) hq
      · intro x1 x2 x3 x4 x5 w3 t2 y0 y1 z H locs ls  hM hl hq
        have hq : qm_X13_rootsOf_1 K (q_X13_rootsOf K k) x1 x2 x3 x4 x5 w3 t2 y0 y1 z = some (r, z1) := hq
        unfold qm_X13_rootsOf_1 at hq
        refine lv_iload_n hx hb dmX13_rootsOf_2 rfl (lv_at hl 2 rfl) ?_
        refine lv_sipush (v := 256) hx hb dmX13_rootsOf_3 (by decide) ?_
        refine lv_icmp_ge (tgt := 22) hx hb dmX13_rootsOf_6 (by decide) (fun hc => ?_) (fun hc => ?_)
        · have hq := tw_it hq hc
          refine lv_aload_n hx hb dmX13_rootsOf_22 rfl (lv_at hl 0 rfl) ?_
          refine mg13_229 hx hb hT hown hK hM dmX13_rootsOf_23 ?_
          refine lv_iload_n hx hb dmX13_rootsOf_26 rfl (lv_at hl 1 rfl) ?_
          refine lv_lconst (v := 1) hx hb dmX13_rootsOf_27 rfl ?_
          refine tw_last mX_ok hU hx hb hK hM mr_57 hq dmX13_rootsOf_28 (fun z1 H locs hM hq => ?_)
          refine lv_iconst (v := 1) hx hb dmX13_rootsOf_29 (by decide) ?_
          refine lv_istore_n (lv' := [(2, .int 1), (0, .ref (u 0)), (1, .int x1)]) hx hb dmX13_rootsOf_30 rfl hl (by decide) rfl (fun ls hl => ?_)
          exact ih_2 x1 1 0 0 0 0 0 0 0 z1 H locs ls hM (lv_sub hl [1, 2, 0] rfl) hq
        · have hq := tw_if hq hc
          refine lv_aload_n hx hb dmX13_rootsOf_9 rfl (lv_at hl 0 rfl) ?_
          refine mg13_226 hx hb hT hown hK hM dmX13_rootsOf_10 ?_
          refine lv_iload_n hx hb dmX13_rootsOf_13 rfl (lv_at hl 2 rfl) ?_
          refine lv_lconst (v := 0) hx hb dmX13_rootsOf_14 rfl ?_
          refine tw_last mX_ok hU hx hb hK hM mr_56 hq dmX13_rootsOf_15 (fun z2 H locs hM hq => ?_)
          refine lv_iinc (v := (x2 + 1)) (lv' := [(2, .int (x2 + 1)), (0, .ref (u 0)), (1, .int x1)]) hx hb dmX13_rootsOf_16 hl (k := 2) rfl rfl (by decide) rfl (fun ls hl => ?_)
          refine lv_goto (tgt := 2) hx hb dmX13_rootsOf_19 (by decide) ?_
          exact ih_1 x1 (x2 + 1) 0 0 0 0 0 0 0 z2 H locs ls hM (lv_sub hl [1, 2, 0] rfl) hq
      · intro x1 x2 x3 x4 x5 w3 t2 y0 y1 z H locs ls  hM hl hq
        have hq : qm_X13_rootsOf_2 K (q_X13_rootsOf K k) x1 x2 x3 x4 x5 w3 t2 y0 y1 z = some (r, z1) := hq
        unfold qm_X13_rootsOf_2 at hq
        refine lv_iload_n hx hb dmX13_rootsOf_31 rfl (lv_at hl 2 rfl) ?_
        refine lv_iload_n hx hb dmX13_rootsOf_32 rfl (lv_at hl 1 rfl) ?_
        refine lv_icmp_gt (tgt := 169) hx hb dmX13_rootsOf_33 (by decide) (fun hc => ?_) (fun hc => ?_)
        · have hq := tw_it hq hc
          refine lv_aload_n hx hb dmX13_rootsOf_169 rfl (lv_at hl 0 rfl) ?_
          refine lv_iload_n hx hb dmX13_rootsOf_170 rfl (lv_at hl 1 rfl) ?_
          refine lv_iconst (v := 0) hx hb dmX13_rootsOf_171 (by decide) ?_
          obtain ⟨v4, z3, hcq, hq⟩ := tw_cl1 hq
          refine tw_cali hM (va_runV (As := [.int x1, .int 0]) (rest := []) ⟨hx, hb, hml, hown, hts⟩ (km_X13_changes l D q u hU K x1 0 z z3 v4 hcq) (cwV 2 hts (tw_gV wM_good wq_341 wq_342 wq_343 wq_61 wq_344) rfl rfl rfl cd_X13_changes ⟨(Nat.le_of_ble_eq_true rfl), (Nat.le_of_ble_eq_true rfl)⟩) (mw_preV hK hN hM mo_0 rfl) rfl rfl hl.1 rfl (lv_room (Nat.le_of_ble_eq_true rfl)) dmX13_rootsOf_172 ⟨(Nat.le_of_ble_eq_true rfl), (Nat.le_of_ble_eq_true rfl)⟩) (fun H locs hM => ?_)
          refine lv_aload_n hx hb dmX13_rootsOf_175 rfl (lv_at hl 0 rfl) ?_
          refine lv_iload_n hx hb dmX13_rootsOf_176 rfl (lv_at hl 1 rfl) ?_
          refine lv_iconst (v := 1) hx hb dmX13_rootsOf_177 (by decide) ?_
          obtain ⟨v6, z5, hcq, hq⟩ := tw_cl1 hq
          refine tw_cali hM (va_runV (As := [.int x1, .int 1]) (rest := [.int v4]) ⟨hx, hb, hml, hown, hts⟩ (km_X13_changes l D q u hU K x1 1 z3 z5 v6 hcq) (cwV 2 hts (tw_gV wM_good wq_341 wq_342 wq_343 wq_61 wq_344) rfl rfl rfl cd_X13_changes ⟨(Nat.le_of_ble_eq_true rfl), (Nat.le_of_ble_eq_true rfl)⟩) (mw_preV hK hN hM mo_0 rfl) rfl rfl hl.1 rfl (lv_room (Nat.le_of_ble_eq_true rfl)) dmX13_rootsOf_178 ⟨(Nat.le_of_ble_eq_true rfl), (Nat.le_of_ble_eq_true rfl)⟩) (fun H locs hM => ?_)
          refine lv_isub hx hb dmX13_rootsOf_181 ?_
          exact mw_iret hx hb hr hlocks hM hq hQQ dmX13_rootsOf_182
        · have hq := tw_if hq hc
          refine lv_aload_n hx hb dmX13_rootsOf_36 rfl (lv_at hl 0 rfl) ?_
          refine lv_iload_n hx hb dmX13_rootsOf_37 rfl (lv_at hl 1 rfl) ?_
          obtain ⟨z7, hcq, hq⟩ := tw_cl0 hq
          refine tw_calv hM (va_runV (As := [.int x1]) (rest := []) ⟨hx, hb, hml, hown, hts⟩ (km_X13_times l D q u hU K x1 z z7 hcq) (cwV 1 hts (tw_gV wM_good wq_337 wq_338 wq_339 wq_61 wq_340) rfl rfl rfl cd_X13_times ⟨(Nat.le_of_ble_eq_true rfl), (Nat.le_of_ble_eq_true rfl)⟩) (mw_preV hK hN hM mo_0 rfl) rfl rfl hl.1 rfl (lv_room (Nat.le_of_ble_eq_true rfl)) dmX13_rootsOf_38 ⟨(Nat.le_of_ble_eq_true rfl), (Nat.le_of_ble_eq_true rfl)⟩) (fun H locs hM => ?_)
          refine lv_iconst (v := 0) hx hb dmX13_rootsOf_41 (by decide) ?_
          refine lv_istore_n (lv' := [(3, .int 0), (0, .ref (u 0)), (1, .int x1), (2, .int x2)]) hx hb dmX13_rootsOf_42 rfl hl (by decide) rfl (fun ls hl => ?_)
          exact ih_3 x1 x2 0 0 0 0 0 0 0 z7 H locs ls hM (lv_sub hl [1, 2, 3, 0] rfl) hq
      · intro x1 x2 x3 x4 x5 w3 t2 y0 y1 z H locs ls  hM hl hq
        have hq : qm_X13_rootsOf_3 K (q_X13_rootsOf K k) x1 x2 x3 x4 x5 w3 t2 y0 y1 z = some (r, z1) := hq
        unfold qm_X13_rootsOf_3 at hq
        refine lv_iload_n hx hb dmX13_rootsOf_43 rfl (lv_at hl 3 rfl) ?_
        refine lv_iload_n hx hb dmX13_rootsOf_44 rfl (lv_at hl 1 rfl) ?_
        refine lv_icmp_ge (tgt := 114) hx hb dmX13_rootsOf_45 (by decide) (fun hc => ?_) (fun hc => ?_)
        · have hq := tw_it hq hc
          refine lv_aload_n hx hb dmX13_rootsOf_114 rfl (lv_at hl 0 rfl) ?_
          refine lv_iload_n hx hb dmX13_rootsOf_115 rfl (lv_at hl 1 rfl) ?_
          obtain ⟨z8, hcq, hq⟩ := tw_cl0 hq
          refine tw_calv hM (va_runV (As := [.int x1]) (rest := []) ⟨hx, hb, hml, hown, hts⟩ (km_X13_times l D q u hU K x1 z z8 hcq) (cwV 1 hts (tw_gV wM_good wq_337 wq_338 wq_339 wq_61 wq_340) rfl rfl rfl cd_X13_times ⟨(Nat.le_of_ble_eq_true rfl), (Nat.le_of_ble_eq_true rfl)⟩) (mw_preV hK hN hM mo_0 rfl) rfl rfl hl.1 rfl (lv_room (Nat.le_of_ble_eq_true rfl)) dmX13_rootsOf_116 ⟨(Nat.le_of_ble_eq_true rfl), (Nat.le_of_ble_eq_true rfl)⟩) (fun H locs hM => ?_)
          refine lv_lconst (v := 0) hx hb dmX13_rootsOf_119 rfl ?_
          refine lv_lstore_n (lv' := [(3, .long 0), (0, .ref (u 0)), (1, .int x1), (2, .int x2)]) hx hb dmX13_rootsOf_120 rfl hl (by decide) rfl (fun ls hl => ?_)
          refine lv_iconst (v := 0) hx hb dmX13_rootsOf_121 (by decide) ?_
          refine lv_istore (lv' := [(5, .int 0), (3, .long 0), (0, .ref (u 0)), (1, .int x1), (2, .int x2)]) hx hb dmX13_rootsOf_122 hl (by decide) rfl (fun ls hl => ?_)
          exact ih_6 x1 x2 0 0 0 0 0 0 0 z8 H locs ls hM (lv_sub hl [2, 3, 4, 1, 0] rfl) hq
        · have hq := tw_if hq hc
          refine lv_iconst (v := 0) hx hb dmX13_rootsOf_48 (by decide) ?_
          refine lv_istore (lv' := [(4, .int 0), (0, .ref (u 0)), (1, .int x1), (2, .int x2), (3, .int x3)]) hx hb dmX13_rootsOf_49 hl (by decide) rfl (fun ls hl => ?_)
          exact ih_4 x1 x2 x3 0 0 0 0 0 0 z H locs ls hM (lv_sub hl [1, 2, 3, 4, 0] rfl) hq
      · intro x1 x2 x3 x4 x5 w3 t2 y0 y1 z H locs ls  hM hl hq
        have hq : qm_X13_rootsOf_4 K (q_X13_rootsOf K k) x1 x2 x3 x4 x5 w3 t2 y0 y1 z = some (r, z1) := hq
        unfold qm_X13_rootsOf_4 at hq
        refine lv_iload hx hb dmX13_rootsOf_51 (lv_at hl 4 rfl) ?_
        refine lv_iload_n hx hb dmX13_rootsOf_53 rfl (lv_at hl 1 rfl) ?_
        refine lv_icmp_ge (tgt := 108) hx hb dmX13_rootsOf_54 (by decide) (fun hc => ?_) (fun hc => ?_)
        · have hq := tw_it hq hc
          refine lv_iinc (v := (x3 + 1)) (lv' := [(3, .int (x3 + 1)), (0, .ref (u 0)), (1, .int x1), (2, .int x2), (4, .int x4)]) hx hb dmX13_rootsOf_108 hl (k := 3) rfl rfl (by decide) rfl (fun ls hl => ?_)
          refine lv_goto (tgt := 43) hx hb dmX13_rootsOf_111 (by decide) ?_
          exact ih_3 x1 x2 (x3 + 1) 0 0 0 0 0 0 z H locs ls hM (lv_sub hl [1, 2, 3, 0] rfl) hq
        · have hq := tw_if hq hc
          refine lv_aload_n hx hb dmX13_rootsOf_57 rfl (lv_at hl 0 rfl) ?_
          refine mg13_226 hx hb hT hown hK hM dmX13_rootsOf_58 ?_
          refine lv_bipush (v := 16) hx hb dmX13_rootsOf_61 (by decide) ?_
          refine lv_iload_n hx hb dmX13_rootsOf_63 rfl (lv_at hl 3 rfl) ?_
          refine lv_imul hx hb dmX13_rootsOf_64 ?_
          refine lv_iload hx hb dmX13_rootsOf_65 (lv_at hl 4 rfl) ?_
          refine lv_iadd hx hb dmX13_rootsOf_67 ?_
          refine lv_aload_n hx hb dmX13_rootsOf_68 rfl (lv_at hl 0 rfl) ?_
          refine mg13_223 hx hb hT hown hK hM dmX13_rootsOf_69 ?_
          refine lv_bipush (v := 16) hx hb dmX13_rootsOf_72 (by decide) ?_
          refine lv_iload_n hx hb dmX13_rootsOf_74 rfl (lv_at hl 3 rfl) ?_
          refine lv_imul hx hb dmX13_rootsOf_75 ?_
          refine lv_iload hx hb dmX13_rootsOf_76 (lv_at hl 4 rfl) ?_
          refine lv_iadd hx hb dmX13_rootsOf_78 ?_
          refine tw_lald mX_ok hx hb hK hM mr_55 hq dmX13_rootsOf_79 (fun v9 hq => ?_)
          refine lv_iload_n hx hb dmX13_rootsOf_80 rfl (lv_at hl 3 rfl) ?_
          refine lv_iload hx hb dmX13_rootsOf_81 (lv_at hl 4 rfl) ?_
          refine lv_icmp_ne (tgt := 99) hx hb dmX13_rootsOf_83 (by decide) (fun hc => ?_) (fun hc => ?_)
          · have hq := tw_if hq hc
            refine lv_lconst (v := 0) hx hb dmX13_rootsOf_99 rfl ?_
            exact ih_5 x1 x2 x3 x4 0 0 ((16 * x3) + x4) 0 v9 z H locs ls hM (lv_sub hl [0, 1, 2, 3, 4] rfl) hq
          · have hq := tw_it hq hc
            refine lv_aload_n hx hb dmX13_rootsOf_86 rfl (lv_at hl 0 rfl) ?_
            refine mg13_229 hx hb hT hown hK hM dmX13_rootsOf_87 ?_
            refine lv_iload_n hx hb dmX13_rootsOf_90 rfl (lv_at hl 1 rfl) ?_
            refine lv_iload_n hx hb dmX13_rootsOf_91 rfl (lv_at hl 2 rfl) ?_
            refine lv_isub hx hb dmX13_rootsOf_92 ?_
            refine lv_iconst (v := 1) hx hb dmX13_rootsOf_93 (by decide) ?_
            refine lv_iadd hx hb dmX13_rootsOf_94 ?_
            refine tw_lald mX_ok hx hb hK hM mr_57 hq dmX13_rootsOf_95 (fun v10 hq => ?_)
            refine lv_goto (tgt := 100) hx hb dmX13_rootsOf_96 (by decide) ?_
            exact ih_5 x1 x2 x3 x4 0 0 ((16 * x3) + x4) v10 v9 z H locs ls hM (lv_sub hl [0, 1, 2, 3, 4] rfl) hq
      · intro x1 x2 x3 x4 x5 w3 t2 y0 y1 z H locs ls  hM hl hq
        have hq : qm_X13_rootsOf_5 K (q_X13_rootsOf K k) x1 x2 x3 x4 x5 w3 t2 y0 y1 z = some (r, z1) := hq
        unfold qm_X13_rootsOf_5 at hq
        refine lv_ladd hx hb dmX13_rootsOf_100 ?_
        refine tw_last mX_ok hU hx hb hK hM mr_56 hq dmX13_rootsOf_101 (fun z11 H locs hM hq => ?_)
        refine lv_iinc (v := (x4 + 1)) (lv' := [(4, .int (x4 + 1)), (0, .ref (u 0)), (1, .int x1), (2, .int x2), (3, .int x3)]) hx hb dmX13_rootsOf_102 hl (k := 4) rfl rfl (by decide) rfl (fun ls hl => ?_)
        refine lv_goto (tgt := 51) hx hb dmX13_rootsOf_105 (by decide) ?_
        exact ih_4 x1 x2 x3 (x4 + 1) 0 0 0 0 0 z11 H locs ls hM (lv_sub hl [1, 2, 3, 4, 0] rfl) hq
      · intro x1 x2 x3 x4 x5 w3 t2 y0 y1 z H locs ls  hM hl hq
        have hq : qm_X13_rootsOf_6 K (q_X13_rootsOf K k) x1 x2 x3 x4 x5 w3 t2 y0 y1 z = some (r, z1) := hq
        unfold qm_X13_rootsOf_6 at hq
        refine lv_iload hx hb dmX13_rootsOf_124 (lv_at hl 4 rfl) ?_
        refine lv_iload_n hx hb dmX13_rootsOf_126 rfl (lv_at hl 1 rfl) ?_
        refine lv_icmp_ge (tgt := 149) hx hb dmX13_rootsOf_127 (by decide) (fun hc => ?_) (fun hc => ?_)
        · have hq := tw_it hq hc
          refine lv_aload_n hx hb dmX13_rootsOf_149 rfl (lv_at hl 0 rfl) ?_
          refine mg13_229 hx hb hT hown hK hM dmX13_rootsOf_150 ?_
          refine lv_iload_n hx hb dmX13_rootsOf_153 rfl (lv_at hl 1 rfl) ?_
          refine lv_iload_n hx hb dmX13_rootsOf_154 rfl (lv_at hl 2 rfl) ?_
          refine lv_isub hx hb dmX13_rootsOf_155 ?_
          refine lv_lconst (v := 0) hx hb dmX13_rootsOf_156 rfl ?_
          refine lv_lload_n hx hb dmX13_rootsOf_157 rfl (lv_at hl 3 rfl) ?_
          refine lv_iload_n hx hb dmX13_rootsOf_158 rfl (lv_at hl 2 rfl) ?_
          refine lv_i2l hx hb dmX13_rootsOf_159 rfl ?_
          obtain ⟨hz, hq⟩ := tw_nzJ hq
          refine lv_ldiv hx hb dmX13_rootsOf_160 hz ?_
          refine lv_lsub hx hb dmX13_rootsOf_161 ?_
          refine tw_last mX_ok hU hx hb hK hM mr_57 hq dmX13_rootsOf_162 (fun z12 H locs hM hq => ?_)
          refine lv_iinc (v := (x2 + 1)) (lv' := [(2, .int (x2 + 1)), (0, .ref (u 0)), (1, .int x1), (3, .long w3), (5, .int x5)]) hx hb dmX13_rootsOf_163 hl (k := 2) rfl rfl (by decide) rfl (fun ls hl => ?_)
          refine lv_goto (tgt := 31) hx hb dmX13_rootsOf_166 (by decide) ?_
          exact ih_2 x1 (x2 + 1) 0 0 0 0 0 0 0 z12 H locs ls hM (lv_sub hl [1, 2, 0] rfl) hq
        · have hq := tw_if hq hc
          refine lv_lload_n hx hb dmX13_rootsOf_130 rfl (lv_at hl 3 rfl) ?_
          refine lv_aload_n hx hb dmX13_rootsOf_131 rfl (lv_at hl 0 rfl) ?_
          refine mg13_223 hx hb hT hown hK hM dmX13_rootsOf_132 ?_
          refine lv_bipush (v := 17) hx hb dmX13_rootsOf_135 (by decide) ?_
          refine lv_iload hx hb dmX13_rootsOf_137 (lv_at hl 4 rfl) ?_
          refine lv_imul hx hb dmX13_rootsOf_139 ?_
          refine tw_lald mX_ok hx hb hK hM mr_55 hq dmX13_rootsOf_140 (fun v13 hq => ?_)
          refine lv_ladd hx hb dmX13_rootsOf_141 ?_
          refine lv_lstore_n (lv' := [(3, .long (w3 + v13)), (0, .ref (u 0)), (1, .int x1), (2, .int x2), (5, .int x5)]) hx hb dmX13_rootsOf_142 rfl hl (by decide) rfl (fun ls hl => ?_)
          refine lv_iinc (v := (x5 + 1)) (lv' := [(5, .int (x5 + 1)), (3, .long (w3 + v13)), (0, .ref (u 0)), (1, .int x1), (2, .int x2)]) hx hb dmX13_rootsOf_143 hl (k := 4) rfl rfl (by decide) rfl (fun ls hl => ?_)
          refine lv_goto (tgt := 124) hx hb dmX13_rootsOf_146 (by decide) ?_
          exact ih_6 x1 x2 0 0 (x5 + 1) (w3 + v13) 0 0 0 z H locs ls hM (lv_sub hl [2, 3, 4, 1, 0] rfl) hq
  exact (key K).1 x1 0 0 0 0 0 0 0 0 z s.heap [] ls  hM (lv_sub hl [0, 1] rfl) hq
theorem dmX13_signatureOf_0 : decode cX13_signatureOf 0 = .ok (.aload_n 1, 1) := dw_at cX13_signatureOf_k0 (p := 0) rfl (by decide +kernel)
theorem dmX13_signatureOf_1 : decode cX13_signatureOf 1 = .ok (.getfield 47, 3) := dw_at cX13_signatureOf_k0 (p := 1) rfl (by decide +kernel)
theorem dmX13_signatureOf_4 : decode cX13_signatureOf 4 = .ok (.aload_n 1, 1) := dw_at cX13_signatureOf_k0 (p := 4) rfl (by decide +kernel)
theorem dmX13_signatureOf_5 : decode cX13_signatureOf 5 = .ok (.getfield 18, 3) := dw_at cX13_signatureOf_k0 (p := 5) rfl (by decide +kernel)
theorem dmX13_signatureOf_8 : decode cX13_signatureOf 8 = .ok (.iload_n 2, 1) := dw_at cX13_signatureOf_k0 (p := 8) rfl (by decide +kernel)
theorem dmX13_signatureOf_9 : decode cX13_signatureOf 9 = .ok (.iaload, 1) := dw_at cX13_signatureOf_k0 (p := 9) rfl (by decide +kernel)
theorem dmX13_signatureOf_10 : decode cX13_signatureOf 10 = .ok (.iaload, 1) := dw_at cX13_signatureOf_k0 (p := 10) rfl (by decide +kernel)
theorem dmX13_signatureOf_11 : decode cX13_signatureOf 11 = .ok (.istore_n 3, 1) := dw_at cX13_signatureOf_k0 (p := 11) rfl (by decide +kernel)
theorem dmX13_signatureOf_12 : decode cX13_signatureOf 12 = .ok (.aload_n 0, 1) := dw_at cX13_signatureOf_k0 (p := 12) rfl (by decide +kernel)
theorem dmX13_signatureOf_13 : decode cX13_signatureOf 13 = .ok (.aload_n 1, 1) := dw_at cX13_signatureOf_k0 (p := 13) rfl (by decide +kernel)
theorem dmX13_signatureOf_14 : decode cX13_signatureOf 14 = .ok (.iload_n 2, 1) := dw_at cX13_signatureOf_k0 (p := 14) rfl (by decide +kernel)
theorem dmX13_signatureOf_15 : decode cX13_signatureOf 15 = .ok (.invokevirtual 603, 3) := dw_at cX13_signatureOf_k0 (p := 15) rfl (by decide +kernel)
theorem dmX13_signatureOf_18 : decode cX13_signatureOf 18 = .ok (.istore 4, 2) := dw_at cX13_signatureOf_k0 (p := 18) rfl (by decide +kernel)
theorem dmX13_signatureOf_20 : decode cX13_signatureOf 20 = .ok (.iconst 0, 1) := dw_at cX13_signatureOf_k0 (p := 20) rfl (by decide +kernel)
theorem dmX13_signatureOf_21 : decode cX13_signatureOf 21 = .ok (.istore 5, 2) := dw_at cX13_signatureOf_k0 (p := 21) rfl (by decide +kernel)
theorem dmX13_signatureOf_23 : decode cX13_signatureOf 23 = .ok (.iload 5, 2) := dw_at cX13_signatureOf_k0 (p := 23) rfl (by decide +kernel)
theorem dmX13_signatureOf_25 : decode cX13_signatureOf 25 = .ok (.sipush 256, 3) := dw_at cX13_signatureOf_k1 (p := 0) rfl (by decide +kernel)
theorem dmX13_signatureOf_28 : decode cX13_signatureOf 28 = .ok (.if_icmp .ge 17, 3) := dw_at cX13_signatureOf_k1 (p := 3) rfl (by decide +kernel)
theorem dmX13_signatureOf_31 : decode cX13_signatureOf 31 = .ok (.aload_n 0, 1) := dw_at cX13_signatureOf_k1 (p := 6) rfl (by decide +kernel)
theorem dmX13_signatureOf_32 : decode cX13_signatureOf 32 = .ok (.getfield 220, 3) := dw_at cX13_signatureOf_k1 (p := 7) rfl (by decide +kernel)
theorem dmX13_signatureOf_35 : decode cX13_signatureOf 35 = .ok (.iload 5, 2) := dw_at cX13_signatureOf_k1 (p := 10) rfl (by decide +kernel)
theorem dmX13_signatureOf_37 : decode cX13_signatureOf 37 = .ok (.lconst 0, 1) := dw_at cX13_signatureOf_k1 (p := 12) rfl (by decide +kernel)
theorem dmX13_signatureOf_38 : decode cX13_signatureOf 38 = .ok (.lastore, 1) := dw_at cX13_signatureOf_k1 (p := 13) rfl (by decide +kernel)
theorem dmX13_signatureOf_39 : decode cX13_signatureOf 39 = .ok (.iinc 5 1, 3) := dw_at cX13_signatureOf_k1 (p := 14) rfl (by decide +kernel)
theorem dmX13_signatureOf_42 : decode cX13_signatureOf 42 = .ok (.goto (-19), 3) := dw_at cX13_signatureOf_k1 (p := 17) rfl (by decide +kernel)
theorem dmX13_signatureOf_45 : decode cX13_signatureOf 45 = .ok (.iconst 0, 1) := dw_at cX13_signatureOf_k1 (p := 20) rfl (by decide +kernel)
theorem dmX13_signatureOf_46 : decode cX13_signatureOf 46 = .ok (.istore 5, 2) := dw_at cX13_signatureOf_k1 (p := 21) rfl (by decide +kernel)
theorem dmX13_signatureOf_48 : decode cX13_signatureOf 48 = .ok (.iconst 0, 1) := dw_at cX13_signatureOf_k1 (p := 23) rfl (by decide +kernel)
theorem dmX13_signatureOf_49 : decode cX13_signatureOf 49 = .ok (.istore 6, 2) := dw_at cX13_signatureOf_k2 (p := 0) rfl (by decide +kernel)
theorem dmX13_signatureOf_51 : decode cX13_signatureOf 51 = .ok (.iload 6, 2) := dw_at cX13_signatureOf_k2 (p := 2) rfl (by decide +kernel)
theorem dmX13_signatureOf_53 : decode cX13_signatureOf 53 = .ok (.aload_n 1, 1) := dw_at cX13_signatureOf_k2 (p := 4) rfl (by decide +kernel)
theorem dmX13_signatureOf_54 : decode cX13_signatureOf 54 = .ok (.getfield 44, 3) := dw_at cX13_signatureOf_k2 (p := 5) rfl (by decide +kernel)
theorem dmX13_signatureOf_57 : decode cX13_signatureOf 57 = .ok (.if_icmp .ge 311, 3) := dw_at cX13_signatureOf_k2 (p := 8) rfl (by decide +kernel)
theorem dmX13_signatureOf_60 : decode cX13_signatureOf 60 = .ok (.aload_n 1, 1) := dw_at cX13_signatureOf_k2 (p := 11) rfl (by decide +kernel)
theorem dmX13_signatureOf_61 : decode cX13_signatureOf 61 = .ok (.getfield 32, 3) := dw_at cX13_signatureOf_k2 (p := 12) rfl (by decide +kernel)
theorem dmX13_signatureOf_64 : decode cX13_signatureOf 64 = .ok (.iload 6, 2) := dw_at cX13_signatureOf_k2 (p := 15) rfl (by decide +kernel)
theorem dmX13_signatureOf_66 : decode cX13_signatureOf 66 = .ok (.iaload, 1) := dw_at cX13_signatureOf_k2 (p := 17) rfl (by decide +kernel)
theorem dmX13_signatureOf_67 : decode cX13_signatureOf 67 = .ok (.ifCond .ne 295, 3) := dw_at cX13_signatureOf_k2 (p := 18) rfl (by decide +kernel)
theorem dmX13_signatureOf_70 : decode cX13_signatureOf 70 = .ok (.aload_n 1, 1) := dw_at cX13_signatureOf_k2 (p := 21) rfl (by decide +kernel)
theorem dmX13_signatureOf_71 : decode cX13_signatureOf 71 = .ok (.getfield 47, 3) := dw_at cX13_signatureOf_k2 (p := 22) rfl (by decide +kernel)
theorem dmX13_signatureOf_74 : decode cX13_signatureOf 74 = .ok (.aload_n 1, 1) := dw_at cX13_signatureOf_k3 (p := 0) rfl (by decide +kernel)
theorem dmX13_signatureOf_75 : decode cX13_signatureOf 75 = .ok (.getfield 18, 3) := dw_at cX13_signatureOf_k3 (p := 1) rfl (by decide +kernel)
theorem dmX13_signatureOf_78 : decode cX13_signatureOf 78 = .ok (.iload 6, 2) := dw_at cX13_signatureOf_k3 (p := 4) rfl (by decide +kernel)
theorem dmX13_signatureOf_80 : decode cX13_signatureOf 80 = .ok (.iaload, 1) := dw_at cX13_signatureOf_k3 (p := 6) rfl (by decide +kernel)
theorem dmX13_signatureOf_81 : decode cX13_signatureOf 81 = .ok (.iaload, 1) := dw_at cX13_signatureOf_k3 (p := 7) rfl (by decide +kernel)
theorem dmX13_signatureOf_82 : decode cX13_signatureOf 82 = .ok (.iload_n 3, 1) := dw_at cX13_signatureOf_k3 (p := 8) rfl (by decide +kernel)
theorem dmX13_signatureOf_83 : decode cX13_signatureOf 83 = .ok (.if_icmp .ne 279, 3) := dw_at cX13_signatureOf_k3 (p := 9) rfl (by decide +kernel)
theorem dmX13_signatureOf_86 : decode cX13_signatureOf 86 = .ok (.aload_n 1, 1) := dw_at cX13_signatureOf_k3 (p := 12) rfl (by decide +kernel)
theorem dmX13_signatureOf_87 : decode cX13_signatureOf 87 = .ok (.getfield 35, 3) := dw_at cX13_signatureOf_k3 (p := 13) rfl (by decide +kernel)
theorem dmX13_signatureOf_90 : decode cX13_signatureOf 90 = .ok (.aload_n 1, 1) := dw_at cX13_signatureOf_k3 (p := 16) rfl (by decide +kernel)
theorem dmX13_signatureOf_91 : decode cX13_signatureOf 91 = .ok (.getfield 23, 3) := dw_at cX13_signatureOf_k3 (p := 17) rfl (by decide +kernel)
theorem dmX13_signatureOf_94 : decode cX13_signatureOf 94 = .ok (.iload 6, 2) := dw_at cX13_signatureOf_k3 (p := 20) rfl (by decide +kernel)
theorem dmX13_signatureOf_96 : decode cX13_signatureOf 96 = .ok (.iaload, 1) := dw_at cX13_signatureOf_k3 (p := 22) rfl (by decide +kernel)
theorem dmX13_signatureOf_97 : decode cX13_signatureOf 97 = .ok (.iaload, 1) := dw_at cX13_signatureOf_k3 (p := 23) rfl (by decide +kernel)
theorem dmX13_signatureOf_98 : decode cX13_signatureOf 98 = .ok (.ifCond .le 7, 3) := dw_at cX13_signatureOf_k4 (p := 0) rfl (by decide +kernel)
theorem dmX13_signatureOf_101 : decode cX13_signatureOf 101 = .ok (.iconst 1, 1) := dw_at cX13_signatureOf_k4 (p := 3) rfl (by decide +kernel)
theorem dmX13_signatureOf_102 : decode cX13_signatureOf 102 = .ok (.goto 4, 3) := dw_at cX13_signatureOf_k4 (p := 4) rfl (by decide +kernel)
theorem dmX13_signatureOf_105 : decode cX13_signatureOf 105 = .ok (.iconst 0, 1) := dw_at cX13_signatureOf_k4 (p := 7) rfl (by decide +kernel)
theorem dmX13_signatureOf_106 : decode cX13_signatureOf 106 = .ok (.istore 7, 2) := dw_at cX13_signatureOf_k4 (p := 8) rfl (by decide +kernel)
theorem dmX13_signatureOf_108 : decode cX13_signatureOf 108 = .ok (.iload 7, 2) := dw_at cX13_signatureOf_k4 (p := 10) rfl (by decide +kernel)
theorem dmX13_signatureOf_110 : decode cX13_signatureOf 110 = .ok (.ifCond .eq 8, 3) := dw_at cX13_signatureOf_k4 (p := 12) rfl (by decide +kernel)
theorem dmX13_signatureOf_113 : decode cX13_signatureOf 113 = .ok (.iload 6, 2) := dw_at cX13_signatureOf_k4 (p := 15) rfl (by decide +kernel)
theorem dmX13_signatureOf_115 : decode cX13_signatureOf 115 = .ok (.goto 10, 3) := dw_at cX13_signatureOf_k4 (p := 17) rfl (by decide +kernel)
theorem dmX13_signatureOf_118 : decode cX13_signatureOf 118 = .ok (.aload_n 1, 1) := dw_at cX13_signatureOf_k4 (p := 20) rfl (by decide +kernel)
theorem dmX13_signatureOf_119 : decode cX13_signatureOf 119 = .ok (.getfield 41, 3) := dw_at cX13_signatureOf_k4 (p := 21) rfl (by decide +kernel)
theorem dmX13_signatureOf_122 : decode cX13_signatureOf 122 = .ok (.iload 6, 2) := dw_at cX13_signatureOf_k5 (p := 0) rfl (by decide +kernel)
theorem dmX13_signatureOf_124 : decode cX13_signatureOf 124 = .ok (.iaload, 1) := dw_at cX13_signatureOf_k5 (p := 2) rfl (by decide +kernel)
theorem dmX13_signatureOf_125 : decode cX13_signatureOf 125 = .ok (.istore 8, 2) := dw_at cX13_signatureOf_k5 (p := 3) rfl (by decide +kernel)
theorem dmX13_signatureOf_127 : decode cX13_signatureOf 127 = .ok (.aload_n 1, 1) := dw_at cX13_signatureOf_k5 (p := 5) rfl (by decide +kernel)
theorem dmX13_signatureOf_128 : decode cX13_signatureOf 128 = .ok (.getfield 41, 3) := dw_at cX13_signatureOf_k5 (p := 6) rfl (by decide +kernel)
theorem dmX13_signatureOf_131 : decode cX13_signatureOf 131 = .ok (.iload 8, 2) := dw_at cX13_signatureOf_k5 (p := 9) rfl (by decide +kernel)
theorem dmX13_signatureOf_133 : decode cX13_signatureOf 133 = .ok (.iaload, 1) := dw_at cX13_signatureOf_k5 (p := 11) rfl (by decide +kernel)
theorem dmX13_signatureOf_134 : decode cX13_signatureOf 134 = .ok (.istore 9, 2) := dw_at cX13_signatureOf_k5 (p := 12) rfl (by decide +kernel)
theorem dmX13_signatureOf_136 : decode cX13_signatureOf 136 = .ok (.aload_n 1, 1) := dw_at cX13_signatureOf_k5 (p := 14) rfl (by decide +kernel)
theorem dmX13_signatureOf_137 : decode cX13_signatureOf 137 = .ok (.getfield 525, 3) := dw_at cX13_signatureOf_k5 (p := 15) rfl (by decide +kernel)
theorem dmX13_signatureOf_140 : decode cX13_signatureOf 140 = .ok (.iconst 2, 1) := dw_at cX13_signatureOf_k5 (p := 18) rfl (by decide +kernel)
theorem dmX13_signatureOf_141 : decode cX13_signatureOf 141 = .ok (.iload 8, 2) := dw_at cX13_signatureOf_k5 (p := 19) rfl (by decide +kernel)
theorem dmX13_signatureOf_143 : decode cX13_signatureOf 143 = .ok (.imul, 1) := dw_at cX13_signatureOf_k5 (p := 21) rfl (by decide +kernel)
theorem dmX13_signatureOf_144 : decode cX13_signatureOf 144 = .ok (.iaload, 1) := dw_at cX13_signatureOf_k5 (p := 22) rfl (by decide +kernel)
theorem dmX13_signatureOf_145 : decode cX13_signatureOf 145 = .ok (.istore 10, 2) := dw_at cX13_signatureOf_k5 (p := 23) rfl (by decide +kernel)
theorem dmX13_signatureOf_147 : decode cX13_signatureOf 147 = .ok (.aload_n 1, 1) := dw_at cX13_signatureOf_k6 (p := 0) rfl (by decide +kernel)
theorem dmX13_signatureOf_148 : decode cX13_signatureOf 148 = .ok (.getfield 525, 3) := dw_at cX13_signatureOf_k6 (p := 1) rfl (by decide +kernel)
theorem dmX13_signatureOf_151 : decode cX13_signatureOf 151 = .ok (.iconst 2, 1) := dw_at cX13_signatureOf_k6 (p := 4) rfl (by decide +kernel)
theorem dmX13_signatureOf_152 : decode cX13_signatureOf 152 = .ok (.iload 8, 2) := dw_at cX13_signatureOf_k6 (p := 5) rfl (by decide +kernel)
theorem dmX13_signatureOf_154 : decode cX13_signatureOf 154 = .ok (.imul, 1) := dw_at cX13_signatureOf_k6 (p := 7) rfl (by decide +kernel)
theorem dmX13_signatureOf_155 : decode cX13_signatureOf 155 = .ok (.iconst 1, 1) := dw_at cX13_signatureOf_k6 (p := 8) rfl (by decide +kernel)
theorem dmX13_signatureOf_156 : decode cX13_signatureOf 156 = .ok (.iadd, 1) := dw_at cX13_signatureOf_k6 (p := 9) rfl (by decide +kernel)
theorem dmX13_signatureOf_157 : decode cX13_signatureOf 157 = .ok (.iaload, 1) := dw_at cX13_signatureOf_k6 (p := 10) rfl (by decide +kernel)
theorem dmX13_signatureOf_158 : decode cX13_signatureOf 158 = .ok (.istore 11, 2) := dw_at cX13_signatureOf_k6 (p := 11) rfl (by decide +kernel)
theorem dmX13_signatureOf_160 : decode cX13_signatureOf 160 = .ok (.aload_n 1, 1) := dw_at cX13_signatureOf_k6 (p := 13) rfl (by decide +kernel)
theorem dmX13_signatureOf_161 : decode cX13_signatureOf 161 = .ok (.getfield 525, 3) := dw_at cX13_signatureOf_k6 (p := 14) rfl (by decide +kernel)
theorem dmX13_signatureOf_164 : decode cX13_signatureOf 164 = .ok (.iconst 2, 1) := dw_at cX13_signatureOf_k6 (p := 17) rfl (by decide +kernel)
theorem dmX13_signatureOf_165 : decode cX13_signatureOf 165 = .ok (.aload_n 1, 1) := dw_at cX13_signatureOf_k6 (p := 18) rfl (by decide +kernel)
theorem dmX13_signatureOf_166 : decode cX13_signatureOf 166 = .ok (.getfield 581, 3) := dw_at cX13_signatureOf_k6 (p := 19) rfl (by decide +kernel)
theorem dmX13_signatureOf_169 : decode cX13_signatureOf 169 = .ok (.iload 8, 2) := dw_at cX13_signatureOf_k6 (p := 22) rfl (by decide +kernel)
theorem dmX13_signatureOf_171 : decode cX13_signatureOf 171 = .ok (.iaload, 1) := dw_at cX13_signatureOf_k7 (p := 0) rfl (by decide +kernel)
theorem dmX13_signatureOf_172 : decode cX13_signatureOf 172 = .ok (.imul, 1) := dw_at cX13_signatureOf_k7 (p := 1) rfl (by decide +kernel)
theorem dmX13_signatureOf_173 : decode cX13_signatureOf 173 = .ok (.iaload, 1) := dw_at cX13_signatureOf_k7 (p := 2) rfl (by decide +kernel)
theorem dmX13_signatureOf_174 : decode cX13_signatureOf 174 = .ok (.istore 12, 2) := dw_at cX13_signatureOf_k7 (p := 3) rfl (by decide +kernel)
theorem dmX13_signatureOf_176 : decode cX13_signatureOf 176 = .ok (.aload_n 1, 1) := dw_at cX13_signatureOf_k7 (p := 5) rfl (by decide +kernel)
theorem dmX13_signatureOf_177 : decode cX13_signatureOf 177 = .ok (.getfield 525, 3) := dw_at cX13_signatureOf_k7 (p := 6) rfl (by decide +kernel)
theorem dmX13_signatureOf_180 : decode cX13_signatureOf 180 = .ok (.iconst 2, 1) := dw_at cX13_signatureOf_k7 (p := 9) rfl (by decide +kernel)
theorem dmX13_signatureOf_181 : decode cX13_signatureOf 181 = .ok (.aload_n 1, 1) := dw_at cX13_signatureOf_k7 (p := 10) rfl (by decide +kernel)
theorem dmX13_signatureOf_182 : decode cX13_signatureOf 182 = .ok (.getfield 581, 3) := dw_at cX13_signatureOf_k7 (p := 11) rfl (by decide +kernel)
theorem dmX13_signatureOf_185 : decode cX13_signatureOf 185 = .ok (.iload 9, 2) := dw_at cX13_signatureOf_k7 (p := 14) rfl (by decide +kernel)
theorem dmX13_signatureOf_187 : decode cX13_signatureOf 187 = .ok (.iaload, 1) := dw_at cX13_signatureOf_k7 (p := 16) rfl (by decide +kernel)
theorem dmX13_signatureOf_188 : decode cX13_signatureOf 188 = .ok (.imul, 1) := dw_at cX13_signatureOf_k7 (p := 17) rfl (by decide +kernel)
theorem dmX13_signatureOf_189 : decode cX13_signatureOf 189 = .ok (.iaload, 1) := dw_at cX13_signatureOf_k7 (p := 18) rfl (by decide +kernel)
theorem dmX13_signatureOf_190 : decode cX13_signatureOf 190 = .ok (.istore 13, 2) := dw_at cX13_signatureOf_k7 (p := 19) rfl (by decide +kernel)
theorem dmX13_signatureOf_192 : decode cX13_signatureOf 192 = .ok (.aload_n 0, 1) := dw_at cX13_signatureOf_k7 (p := 21) rfl (by decide +kernel)
theorem dmX13_signatureOf_193 : decode cX13_signatureOf 193 = .ok (.getfield 214, 3) := dw_at cX13_signatureOf_k7 (p := 22) rfl (by decide +kernel)
theorem dmX13_signatureOf_196 : decode cX13_signatureOf 196 = .ok (.iload 10, 2) := dw_at cX13_signatureOf_k8 (p := 0) rfl (by decide +kernel)
theorem dmX13_signatureOf_198 : decode cX13_signatureOf 198 = .ok (.iaload, 1) := dw_at cX13_signatureOf_k8 (p := 2) rfl (by decide +kernel)
theorem dmX13_signatureOf_199 : decode cX13_signatureOf 199 = .ok (.iconst 1, 1) := dw_at cX13_signatureOf_k8 (p := 3) rfl (by decide +kernel)
theorem dmX13_signatureOf_200 : decode cX13_signatureOf 200 = .ok (.if_icmp .ne 7, 3) := dw_at cX13_signatureOf_k8 (p := 4) rfl (by decide +kernel)
theorem dmX13_signatureOf_203 : decode cX13_signatureOf 203 = .ok (.iconst 1, 1) := dw_at cX13_signatureOf_k8 (p := 7) rfl (by decide +kernel)
theorem dmX13_signatureOf_204 : decode cX13_signatureOf 204 = .ok (.goto 4, 3) := dw_at cX13_signatureOf_k8 (p := 8) rfl (by decide +kernel)
theorem dmX13_signatureOf_207 : decode cX13_signatureOf 207 = .ok (.iconst 0, 1) := dw_at cX13_signatureOf_k8 (p := 11) rfl (by decide +kernel)
theorem dmX13_signatureOf_208 : decode cX13_signatureOf 208 = .ok (.istore 14, 2) := dw_at cX13_signatureOf_k8 (p := 12) rfl (by decide +kernel)
theorem dmX13_signatureOf_210 : decode cX13_signatureOf 210 = .ok (.iload 7, 2) := dw_at cX13_signatureOf_k8 (p := 14) rfl (by decide +kernel)
theorem dmX13_signatureOf_212 : decode cX13_signatureOf 212 = .ok (.iload 14, 2) := dw_at cX13_signatureOf_k8 (p := 16) rfl (by decide +kernel)
theorem dmX13_signatureOf_214 : decode cX13_signatureOf 214 = .ok (.if_icmp .ne 7, 3) := dw_at cX13_signatureOf_k8 (p := 18) rfl (by decide +kernel)
theorem dmX13_signatureOf_217 : decode cX13_signatureOf 217 = .ok (.iconst (-1), 1) := dw_at cX13_signatureOf_k8 (p := 21) rfl (by decide +kernel)
theorem dmX13_signatureOf_218 : decode cX13_signatureOf 218 = .ok (.goto 4, 3) := dw_at cX13_signatureOf_k8 (p := 22) rfl (by decide +kernel)
theorem dmX13_signatureOf_221 : decode cX13_signatureOf 221 = .ok (.iconst 1, 1) := dw_at cX13_signatureOf_k9 (p := 0) rfl (by decide +kernel)
theorem dmX13_signatureOf_222 : decode cX13_signatureOf 222 = .ok (.istore 15, 2) := dw_at cX13_signatureOf_k9 (p := 1) rfl (by decide +kernel)
theorem dmX13_signatureOf_224 : decode cX13_signatureOf 224 = .ok (.aload_n 0, 1) := dw_at cX13_signatureOf_k9 (p := 3) rfl (by decide +kernel)
theorem dmX13_signatureOf_225 : decode cX13_signatureOf 225 = .ok (.getfield 217, 3) := dw_at cX13_signatureOf_k9 (p := 4) rfl (by decide +kernel)
theorem dmX13_signatureOf_228 : decode cX13_signatureOf 228 = .ok (.iload 14, 2) := dw_at cX13_signatureOf_k9 (p := 7) rfl (by decide +kernel)
theorem dmX13_signatureOf_230 : decode cX13_signatureOf 230 = .ok (.ifCond .eq 8, 3) := dw_at cX13_signatureOf_k9 (p := 9) rfl (by decide +kernel)
theorem dmX13_signatureOf_233 : decode cX13_signatureOf 233 = .ok (.iload 10, 2) := dw_at cX13_signatureOf_k9 (p := 12) rfl (by decide +kernel)
theorem dmX13_signatureOf_235 : decode cX13_signatureOf 235 = .ok (.goto 5, 3) := dw_at cX13_signatureOf_k9 (p := 14) rfl (by decide +kernel)
theorem dmX13_signatureOf_238 : decode cX13_signatureOf 238 = .ok (.iload 11, 2) := dw_at cX13_signatureOf_k9 (p := 17) rfl (by decide +kernel)
theorem dmX13_signatureOf_240 : decode cX13_signatureOf 240 = .ok (.iaload, 1) := dw_at cX13_signatureOf_k9 (p := 19) rfl (by decide +kernel)
theorem dmX13_signatureOf_241 : decode cX13_signatureOf 241 = .ok (.istore 16, 2) := dw_at cX13_signatureOf_k9 (p := 20) rfl (by decide +kernel)
theorem dmX13_signatureOf_243 : decode cX13_signatureOf 243 = .ok (.aload_n 0, 1) := dw_at cX13_signatureOf_k9 (p := 22) rfl (by decide +kernel)
theorem dmX13_signatureOf_244 : decode cX13_signatureOf 244 = .ok (.getfield 217, 3) := dw_at cX13_signatureOf_k9 (p := 23) rfl (by decide +kernel)
theorem dmX13_signatureOf_247 : decode cX13_signatureOf 247 = .ok (.iload 14, 2) := dw_at cX13_signatureOf_k10 (p := 0) rfl (by decide +kernel)
theorem dmX13_signatureOf_249 : decode cX13_signatureOf 249 = .ok (.ifCond .eq 8, 3) := dw_at cX13_signatureOf_k10 (p := 2) rfl (by decide +kernel)
theorem dmX13_signatureOf_252 : decode cX13_signatureOf 252 = .ok (.iload 13, 2) := dw_at cX13_signatureOf_k10 (p := 5) rfl (by decide +kernel)
theorem dmX13_signatureOf_254 : decode cX13_signatureOf 254 = .ok (.goto 5, 3) := dw_at cX13_signatureOf_k10 (p := 7) rfl (by decide +kernel)
theorem dmX13_signatureOf_257 : decode cX13_signatureOf 257 = .ok (.iload 12, 2) := dw_at cX13_signatureOf_k10 (p := 10) rfl (by decide +kernel)
theorem dmX13_signatureOf_259 : decode cX13_signatureOf 259 = .ok (.iaload, 1) := dw_at cX13_signatureOf_k10 (p := 12) rfl (by decide +kernel)
theorem dmX13_signatureOf_260 : decode cX13_signatureOf 260 = .ok (.istore 17, 2) := dw_at cX13_signatureOf_k10 (p := 13) rfl (by decide +kernel)
theorem dmX13_signatureOf_262 : decode cX13_signatureOf 262 = .ok (.aload_n 0, 1) := dw_at cX13_signatureOf_k10 (p := 15) rfl (by decide +kernel)
theorem dmX13_signatureOf_263 : decode cX13_signatureOf 263 = .ok (.getfield 220, 3) := dw_at cX13_signatureOf_k10 (p := 16) rfl (by decide +kernel)
theorem dmX13_signatureOf_266 : decode cX13_signatureOf 266 = .ok (.bipush 16, 2) := dw_at cX13_signatureOf_k10 (p := 19) rfl (by decide +kernel)
theorem dmX13_signatureOf_268 : decode cX13_signatureOf 268 = .ok (.iload 16, 2) := dw_at cX13_signatureOf_k10 (p := 21) rfl (by decide +kernel)
theorem dmX13_signatureOf_270 : decode cX13_signatureOf 270 = .ok (.imul, 1) := dw_at cX13_signatureOf_k10 (p := 23) rfl (by decide +kernel)
theorem dmX13_signatureOf_271 : decode cX13_signatureOf 271 = .ok (.iload 16, 2) := dw_at cX13_signatureOf_k11 (p := 0) rfl (by decide +kernel)
theorem dmX13_signatureOf_273 : decode cX13_signatureOf 273 = .ok (.iadd, 1) := dw_at cX13_signatureOf_k11 (p := 2) rfl (by decide +kernel)
theorem dmX13_signatureOf_274 : decode cX13_signatureOf 274 = .ok (.dup2, 1) := dw_at cX13_signatureOf_k11 (p := 3) rfl (by decide +kernel)
theorem dmX13_signatureOf_275 : decode cX13_signatureOf 275 = .ok (.laload, 1) := dw_at cX13_signatureOf_k11 (p := 4) rfl (by decide +kernel)
theorem dmX13_signatureOf_276 : decode cX13_signatureOf 276 = .ok (.iload 15, 2) := dw_at cX13_signatureOf_k11 (p := 5) rfl (by decide +kernel)
theorem dmX13_signatureOf_278 : decode cX13_signatureOf 278 = .ok (.i2l, 1) := dw_at cX13_signatureOf_k11 (p := 7) rfl (by decide +kernel)
theorem dmX13_signatureOf_279 : decode cX13_signatureOf 279 = .ok (.ladd, 1) := dw_at cX13_signatureOf_k11 (p := 8) rfl (by decide +kernel)
theorem dmX13_signatureOf_280 : decode cX13_signatureOf 280 = .ok (.lastore, 1) := dw_at cX13_signatureOf_k11 (p := 9) rfl (by decide +kernel)
theorem dmX13_signatureOf_281 : decode cX13_signatureOf 281 = .ok (.aload_n 0, 1) := dw_at cX13_signatureOf_k11 (p := 10) rfl (by decide +kernel)
theorem dmX13_signatureOf_282 : decode cX13_signatureOf 282 = .ok (.getfield 220, 3) := dw_at cX13_signatureOf_k11 (p := 11) rfl (by decide +kernel)
theorem dmX13_signatureOf_285 : decode cX13_signatureOf 285 = .ok (.bipush 16, 2) := dw_at cX13_signatureOf_k11 (p := 14) rfl (by decide +kernel)
theorem dmX13_signatureOf_287 : decode cX13_signatureOf 287 = .ok (.iload 17, 2) := dw_at cX13_signatureOf_k11 (p := 16) rfl (by decide +kernel)
theorem dmX13_signatureOf_289 : decode cX13_signatureOf 289 = .ok (.imul, 1) := dw_at cX13_signatureOf_k11 (p := 18) rfl (by decide +kernel)
theorem dmX13_signatureOf_290 : decode cX13_signatureOf 290 = .ok (.iload 17, 2) := dw_at cX13_signatureOf_k11 (p := 19) rfl (by decide +kernel)
theorem dmX13_signatureOf_292 : decode cX13_signatureOf 292 = .ok (.iadd, 1) := dw_at cX13_signatureOf_k11 (p := 21) rfl (by decide +kernel)
theorem dmX13_signatureOf_293 : decode cX13_signatureOf 293 = .ok (.dup2, 1) := dw_at cX13_signatureOf_k11 (p := 22) rfl (by decide +kernel)
theorem dmX13_signatureOf_294 : decode cX13_signatureOf 294 = .ok (.laload, 1) := dw_at cX13_signatureOf_k11 (p := 23) rfl (by decide +kernel)
theorem dmX13_signatureOf_295 : decode cX13_signatureOf 295 = .ok (.iload 15, 2) := dw_at cX13_signatureOf_k12 (p := 0) rfl (by decide +kernel)
theorem dmX13_signatureOf_297 : decode cX13_signatureOf 297 = .ok (.i2l, 1) := dw_at cX13_signatureOf_k12 (p := 2) rfl (by decide +kernel)
theorem dmX13_signatureOf_298 : decode cX13_signatureOf 298 = .ok (.ladd, 1) := dw_at cX13_signatureOf_k12 (p := 3) rfl (by decide +kernel)
theorem dmX13_signatureOf_299 : decode cX13_signatureOf 299 = .ok (.lastore, 1) := dw_at cX13_signatureOf_k12 (p := 4) rfl (by decide +kernel)
theorem dmX13_signatureOf_300 : decode cX13_signatureOf 300 = .ok (.aload_n 0, 1) := dw_at cX13_signatureOf_k12 (p := 5) rfl (by decide +kernel)
theorem dmX13_signatureOf_301 : decode cX13_signatureOf 301 = .ok (.getfield 220, 3) := dw_at cX13_signatureOf_k12 (p := 6) rfl (by decide +kernel)
theorem dmX13_signatureOf_304 : decode cX13_signatureOf 304 = .ok (.bipush 16, 2) := dw_at cX13_signatureOf_k12 (p := 9) rfl (by decide +kernel)
theorem dmX13_signatureOf_306 : decode cX13_signatureOf 306 = .ok (.iload 16, 2) := dw_at cX13_signatureOf_k12 (p := 11) rfl (by decide +kernel)
theorem dmX13_signatureOf_308 : decode cX13_signatureOf 308 = .ok (.imul, 1) := dw_at cX13_signatureOf_k12 (p := 13) rfl (by decide +kernel)
theorem dmX13_signatureOf_309 : decode cX13_signatureOf 309 = .ok (.iload 17, 2) := dw_at cX13_signatureOf_k12 (p := 14) rfl (by decide +kernel)
theorem dmX13_signatureOf_311 : decode cX13_signatureOf 311 = .ok (.iadd, 1) := dw_at cX13_signatureOf_k12 (p := 16) rfl (by decide +kernel)
theorem dmX13_signatureOf_312 : decode cX13_signatureOf 312 = .ok (.dup2, 1) := dw_at cX13_signatureOf_k12 (p := 17) rfl (by decide +kernel)
theorem dmX13_signatureOf_313 : decode cX13_signatureOf 313 = .ok (.laload, 1) := dw_at cX13_signatureOf_k12 (p := 18) rfl (by decide +kernel)
theorem dmX13_signatureOf_314 : decode cX13_signatureOf 314 = .ok (.iload 15, 2) := dw_at cX13_signatureOf_k12 (p := 19) rfl (by decide +kernel)
theorem dmX13_signatureOf_316 : decode cX13_signatureOf 316 = .ok (.i2l, 1) := dw_at cX13_signatureOf_k12 (p := 21) rfl (by decide +kernel)
theorem dmX13_signatureOf_317 : decode cX13_signatureOf 317 = .ok (.lsub, 1) := dw_at cX13_signatureOf_k12 (p := 22) rfl (by decide +kernel)
theorem dmX13_signatureOf_318 : decode cX13_signatureOf 318 = .ok (.lastore, 1) := dw_at cX13_signatureOf_k12 (p := 23) rfl (by decide +kernel)
theorem dmX13_signatureOf_319 : decode cX13_signatureOf 319 = .ok (.aload_n 0, 1) := dw_at cX13_signatureOf_k13 (p := 0) rfl (by decide +kernel)
theorem dmX13_signatureOf_320 : decode cX13_signatureOf 320 = .ok (.getfield 220, 3) := dw_at cX13_signatureOf_k13 (p := 1) rfl (by decide +kernel)
theorem dmX13_signatureOf_323 : decode cX13_signatureOf 323 = .ok (.bipush 16, 2) := dw_at cX13_signatureOf_k13 (p := 4) rfl (by decide +kernel)
theorem dmX13_signatureOf_325 : decode cX13_signatureOf 325 = .ok (.iload 17, 2) := dw_at cX13_signatureOf_k13 (p := 6) rfl (by decide +kernel)
theorem dmX13_signatureOf_327 : decode cX13_signatureOf 327 = .ok (.imul, 1) := dw_at cX13_signatureOf_k13 (p := 8) rfl (by decide +kernel)
theorem dmX13_signatureOf_328 : decode cX13_signatureOf 328 = .ok (.iload 16, 2) := dw_at cX13_signatureOf_k13 (p := 9) rfl (by decide +kernel)
theorem dmX13_signatureOf_330 : decode cX13_signatureOf 330 = .ok (.iadd, 1) := dw_at cX13_signatureOf_k13 (p := 11) rfl (by decide +kernel)
theorem dmX13_signatureOf_331 : decode cX13_signatureOf 331 = .ok (.dup2, 1) := dw_at cX13_signatureOf_k13 (p := 12) rfl (by decide +kernel)
theorem dmX13_signatureOf_332 : decode cX13_signatureOf 332 = .ok (.laload, 1) := dw_at cX13_signatureOf_k13 (p := 13) rfl (by decide +kernel)
theorem dmX13_signatureOf_333 : decode cX13_signatureOf 333 = .ok (.iload 15, 2) := dw_at cX13_signatureOf_k13 (p := 14) rfl (by decide +kernel)
theorem dmX13_signatureOf_335 : decode cX13_signatureOf 335 = .ok (.i2l, 1) := dw_at cX13_signatureOf_k13 (p := 16) rfl (by decide +kernel)
theorem dmX13_signatureOf_336 : decode cX13_signatureOf 336 = .ok (.lsub, 1) := dw_at cX13_signatureOf_k13 (p := 17) rfl (by decide +kernel)
theorem dmX13_signatureOf_337 : decode cX13_signatureOf 337 = .ok (.lastore, 1) := dw_at cX13_signatureOf_k13 (p := 18) rfl (by decide +kernel)
theorem dmX13_signatureOf_338 : decode cX13_signatureOf 338 = .ok (.iload 5, 2) := dw_at cX13_signatureOf_k13 (p := 19) rfl (by decide +kernel)
theorem dmX13_signatureOf_340 : decode cX13_signatureOf 340 = .ok (.iload 14, 2) := dw_at cX13_signatureOf_k13 (p := 21) rfl (by decide +kernel)
theorem dmX13_signatureOf_342 : decode cX13_signatureOf 342 = .ok (.ifCond .eq 7, 3) := dw_at cX13_signatureOf_k13 (p := 23) rfl (by decide +kernel)
theorem dmX13_signatureOf_345 : decode cX13_signatureOf 345 = .ok (.iconst 0, 1) := dw_at cX13_signatureOf_k14 (p := 0) rfl (by decide +kernel)
theorem dmX13_signatureOf_346 : decode cX13_signatureOf 346 = .ok (.goto 13, 3) := dw_at cX13_signatureOf_k14 (p := 1) rfl (by decide +kernel)
theorem dmX13_signatureOf_349 : decode cX13_signatureOf 349 = .ok (.iload 7, 2) := dw_at cX13_signatureOf_k14 (p := 4) rfl (by decide +kernel)
theorem dmX13_signatureOf_351 : decode cX13_signatureOf 351 = .ok (.ifCond .eq 7, 3) := dw_at cX13_signatureOf_k14 (p := 6) rfl (by decide +kernel)
theorem dmX13_signatureOf_354 : decode cX13_signatureOf 354 = .ok (.iconst 1, 1) := dw_at cX13_signatureOf_k14 (p := 9) rfl (by decide +kernel)
theorem dmX13_signatureOf_355 : decode cX13_signatureOf 355 = .ok (.goto 4, 3) := dw_at cX13_signatureOf_k14 (p := 10) rfl (by decide +kernel)
theorem dmX13_signatureOf_358 : decode cX13_signatureOf 358 = .ok (.iconst (-1), 1) := dw_at cX13_signatureOf_k14 (p := 13) rfl (by decide +kernel)
theorem dmX13_signatureOf_359 : decode cX13_signatureOf 359 = .ok (.iadd, 1) := dw_at cX13_signatureOf_k14 (p := 14) rfl (by decide +kernel)
theorem dmX13_signatureOf_360 : decode cX13_signatureOf 360 = .ok (.istore 5, 2) := dw_at cX13_signatureOf_k14 (p := 15) rfl (by decide +kernel)
theorem dmX13_signatureOf_362 : decode cX13_signatureOf 362 = .ok (.iinc 6 1, 3) := dw_at cX13_signatureOf_k14 (p := 17) rfl (by decide +kernel)
theorem dmX13_signatureOf_365 : decode cX13_signatureOf 365 = .ok (.goto (-314), 3) := dw_at cX13_signatureOf_k14 (p := 20) rfl (by decide +kernel)
theorem dmX13_signatureOf_368 : decode cX13_signatureOf 368 = .ok (.aload_n 0, 1) := dw_at cX13_signatureOf_k14 (p := 23) rfl (by decide +kernel)
theorem dmX13_signatureOf_369 : decode cX13_signatureOf 369 = .ok (.iload 4, 2) := dw_at cX13_signatureOf_k15 (p := 0) rfl (by decide +kernel)
theorem dmX13_signatureOf_371 : decode cX13_signatureOf 371 = .ok (.iconst 1, 1) := dw_at cX13_signatureOf_k15 (p := 2) rfl (by decide +kernel)
theorem dmX13_signatureOf_372 : decode cX13_signatureOf 372 = .ok (.isub, 1) := dw_at cX13_signatureOf_k15 (p := 3) rfl (by decide +kernel)
theorem dmX13_signatureOf_373 : decode cX13_signatureOf 373 = .ok (.invokevirtual 607, 3) := dw_at cX13_signatureOf_k15 (p := 4) rfl (by decide +kernel)
theorem dmX13_signatureOf_376 : decode cX13_signatureOf 376 = .ok (.iload 5, 2) := dw_at cX13_signatureOf_k15 (p := 7) rfl (by decide +kernel)
theorem dmX13_signatureOf_378 : decode cX13_signatureOf 378 = .ok (.isub, 1) := dw_at cX13_signatureOf_k15 (p := 9) rfl (by decide +kernel)
theorem dmX13_signatureOf_379 : decode cX13_signatureOf 379 = .ok (.ireturn, 1) := dw_at cX13_signatureOf_k15 (p := 10) rfl (by decide +kernel)
def qm_X13_signatureOf_0 (K : Nat) (go : Nat → Int32 → Int32 → Int32 → Int32 → Int32 → Int32 → Int32 → Int32 → Int32 → Int32 → Int32 → Int32 → Int32 → Int32 → Int32 → Int32 → Nat → Int32 → Int32 → ow_MS → Option (Int32 × ow_MS)) (x2 : Int32) (x3 : Int32) (x4 : Int32) (x5 : Int32) (x6 : Int32) (x7 : Int32) (x8 : Int32) (x9 : Int32) (x10 : Int32) (x11 : Int32) (x12 : Int32) (x13 : Int32) (x14 : Int32) (x15 : Int32) (x16 : Int32) (x17 : Int32) (r1 : Nat) (t0 : Int32) (t1 : Int32) (z : ow_MS) : Option (Int32 × ow_MS) :=
 rdI mX z (r1 + 8) x2 fun v1 => rdI mX z (r1 + 12) v1 fun v2 => cs1 (qe_X13_colourFaces K r1 x2 z) fun v4 z3 => go 1 x2 v2 v4 0 0 0 0 0 0 0 0 0 0 0 0 0 r1 0 0 z3
def qm_X13_signatureOf_1 (K : Nat) (go : Nat → Int32 → Int32 → Int32 → Int32 → Int32 → Int32 → Int32 → Int32 → Int32 → Int32 → Int32 → Int32 → Int32 → Int32 → Int32 → Int32 → Nat → Int32 → Int32 → ow_MS → Option (Int32 × ow_MS)) (x2 : Int32) (x3 : Int32) (x4 : Int32) (x5 : Int32) (x6 : Int32) (x7 : Int32) (x8 : Int32) (x9 : Int32) (x10 : Int32) (x11 : Int32) (x12 : Int32) (x13 : Int32) (x14 : Int32) (x15 : Int32) (x16 : Int32) (x17 : Int32) (r1 : Nat) (t0 : Int32) (t1 : Int32) (z : ow_MS) : Option (Int32 × ow_MS) :=
 (if 256 ≤ x5 then go 2 x2 x3 x4 0 0 0 0 0 0 0 0 0 0 0 0 0 r1 0 0 z
 else wrJ mX z 54 x5 0 fun z5 => go 1 x2 x3 x4 (x5 + 1) 0 0 0 0 0 0 0 0 0 0 0 0 r1 0 0 z5)
def qm_X13_signatureOf_2 (K : Nat) (go : Nat → Int32 → Int32 → Int32 → Int32 → Int32 → Int32 → Int32 → Int32 → Int32 → Int32 → Int32 → Int32 → Int32 → Int32 → Int32 → Int32 → Nat → Int32 → Int32 → ow_MS → Option (Int32 × ow_MS)) (x2 : Int32) (x3 : Int32) (x4 : Int32) (x5 : Int32) (x6 : Int32) (x7 : Int32) (x8 : Int32) (x9 : Int32) (x10 : Int32) (x11 : Int32) (x12 : Int32) (x13 : Int32) (x14 : Int32) (x15 : Int32) (x16 : Int32) (x17 : Int32) (r1 : Nat) (t0 : Int32) (t1 : Int32) (z : ow_MS) : Option (Int32 × ow_MS) :=
 rdF z (r1 + 1) fun v6 => (if v6 ≤ x6 then cs1 (qe_X13_rootsOf K (x4 - 1) z) fun v8 z7 => some ((v8 - x5), z7)
 else rdI mX z (r1 + 5) x6 fun v9 => (if v9 = 0 then rdI mX z (r1 + 8) x6 fun v10 => rdI mX z (r1 + 12) v10 fun v11 => (if v11 = x3 then rdI mX z (r1 + 4) x6 fun v12 => rdI mX z (r1 + 6) v12 fun v13 => (if v13 ≤ 0 then go 3 x2 x3 x4 x5 x6 0 0 0 0 0 0 0 0 0 0 0 r1 0 0 z
 else go 3 x2 x3 x4 x5 x6 0 0 0 0 0 0 0 0 0 0 0 r1 1 0 z)
 else go 10 x2 x3 x4 x5 x6 0 0 0 0 0 0 0 0 0 0 0 r1 0 0 z)
 else go 10 x2 x3 x4 x5 x6 0 0 0 0 0 0 0 0 0 0 0 r1 0 0 z))
def qm_X13_signatureOf_3 (K : Nat) (go : Nat → Int32 → Int32 → Int32 → Int32 → Int32 → Int32 → Int32 → Int32 → Int32 → Int32 → Int32 → Int32 → Int32 → Int32 → Int32 → Int32 → Nat → Int32 → Int32 → ow_MS → Option (Int32 × ow_MS)) (x2 : Int32) (x3 : Int32) (x4 : Int32) (x5 : Int32) (x6 : Int32) (x7 : Int32) (x8 : Int32) (x9 : Int32) (x10 : Int32) (x11 : Int32) (x12 : Int32) (x13 : Int32) (x14 : Int32) (x15 : Int32) (x16 : Int32) (x17 : Int32) (r1 : Nat) (t0 : Int32) (t1 : Int32) (z : ow_MS) : Option (Int32 × ow_MS) :=
 (if t0 = 0 then rdI mX z (r1 + 7) x6 fun v14 => go 4 x2 x3 x4 x5 x6 t0 0 0 0 0 0 0 0 0 0 0 r1 v14 0 z
 else go 4 x2 x3 x4 x5 x6 t0 0 0 0 0 0 0 0 0 0 0 r1 x6 0 z)
def qm_X13_signatureOf_4 (K : Nat) (go : Nat → Int32 → Int32 → Int32 → Int32 → Int32 → Int32 → Int32 → Int32 → Int32 → Int32 → Int32 → Int32 → Int32 → Int32 → Int32 → Int32 → Nat → Int32 → Int32 → ow_MS → Option (Int32 × ow_MS)) (x2 : Int32) (x3 : Int32) (x4 : Int32) (x5 : Int32) (x6 : Int32) (x7 : Int32) (x8 : Int32) (x9 : Int32) (x10 : Int32) (x11 : Int32) (x12 : Int32) (x13 : Int32) (x14 : Int32) (x15 : Int32) (x16 : Int32) (x17 : Int32) (r1 : Nat) (t0 : Int32) (t1 : Int32) (z : ow_MS) : Option (Int32 × ow_MS) :=
 rdI mX z (r1 + 7) t0 fun v15 => rdI mX z (r1 + 14) (2 * t0) fun v16 => rdI mX z (r1 + 14) ((2 * t0) + 1) fun v17 => rdI mX z (r1 + 10) t0 fun v18 => rdI mX z (r1 + 14) (2 * v18) fun v19 => rdI mX z (r1 + 10) v15 fun v20 => rdI mX z (r1 + 14) (2 * v20) fun v21 => rdI mX z 52 v16 fun v22 => (if v22 = 1 then go 5 x2 x3 x4 x5 x6 x7 t0 v15 v16 v17 v19 v21 0 0 0 0 r1 1 0 z
 else go 5 x2 x3 x4 x5 x6 x7 t0 v15 v16 v17 v19 v21 0 0 0 0 r1 0 0 z)
def qm_X13_signatureOf_5 (K : Nat) (go : Nat → Int32 → Int32 → Int32 → Int32 → Int32 → Int32 → Int32 → Int32 → Int32 → Int32 → Int32 → Int32 → Int32 → Int32 → Int32 → Int32 → Nat → Int32 → Int32 → ow_MS → Option (Int32 × ow_MS)) (x2 : Int32) (x3 : Int32) (x4 : Int32) (x5 : Int32) (x6 : Int32) (x7 : Int32) (x8 : Int32) (x9 : Int32) (x10 : Int32) (x11 : Int32) (x12 : Int32) (x13 : Int32) (x14 : Int32) (x15 : Int32) (x16 : Int32) (x17 : Int32) (r1 : Nat) (t0 : Int32) (t1 : Int32) (z : ow_MS) : Option (Int32 × ow_MS) :=
 (if x7 = t0 then go 6 x2 x3 x4 x5 x6 x7 x8 x9 x10 x11 x12 x13 t0 0 0 0 r1 (-1) 0 z
 else go 6 x2 x3 x4 x5 x6 x7 x8 x9 x10 x11 x12 x13 t0 0 0 0 r1 1 0 z)
def qm_X13_signatureOf_6 (K : Nat) (go : Nat → Int32 → Int32 → Int32 → Int32 → Int32 → Int32 → Int32 → Int32 → Int32 → Int32 → Int32 → Int32 → Int32 → Int32 → Int32 → Int32 → Nat → Int32 → Int32 → ow_MS → Option (Int32 × ow_MS)) (x2 : Int32) (x3 : Int32) (x4 : Int32) (x5 : Int32) (x6 : Int32) (x7 : Int32) (x8 : Int32) (x9 : Int32) (x10 : Int32) (x11 : Int32) (x12 : Int32) (x13 : Int32) (x14 : Int32) (x15 : Int32) (x16 : Int32) (x17 : Int32) (r1 : Nat) (t0 : Int32) (t1 : Int32) (z : ow_MS) : Option (Int32 × ow_MS) :=
 (if x14 = 0 then go 7 x2 x3 x4 x5 x6 x7 x8 x9 x10 x11 x12 x13 x14 t0 0 0 r1 x11 0 z
 else go 7 x2 x3 x4 x5 x6 x7 x8 x9 x10 x11 x12 x13 x14 t0 0 0 r1 x10 0 z)
def qm_X13_signatureOf_7 (K : Nat) (go : Nat → Int32 → Int32 → Int32 → Int32 → Int32 → Int32 → Int32 → Int32 → Int32 → Int32 → Int32 → Int32 → Int32 → Int32 → Int32 → Int32 → Nat → Int32 → Int32 → ow_MS → Option (Int32 × ow_MS)) (x2 : Int32) (x3 : Int32) (x4 : Int32) (x5 : Int32) (x6 : Int32) (x7 : Int32) (x8 : Int32) (x9 : Int32) (x10 : Int32) (x11 : Int32) (x12 : Int32) (x13 : Int32) (x14 : Int32) (x15 : Int32) (x16 : Int32) (x17 : Int32) (r1 : Nat) (t0 : Int32) (t1 : Int32) (z : ow_MS) : Option (Int32 × ow_MS) :=
 rdI mX z 53 t0 fun v23 => (if x14 = 0 then go 8 x2 x3 x4 x5 x6 x7 x8 x9 x10 x11 x12 x13 x14 x15 v23 0 r1 x12 0 z
 else go 8 x2 x3 x4 x5 x6 x7 x8 x9 x10 x11 x12 x13 x14 x15 v23 0 r1 x13 0 z)
def qm_X13_signatureOf_8 (K : Nat) (go : Nat → Int32 → Int32 → Int32 → Int32 → Int32 → Int32 → Int32 → Int32 → Int32 → Int32 → Int32 → Int32 → Int32 → Int32 → Int32 → Int32 → Nat → Int32 → Int32 → ow_MS → Option (Int32 × ow_MS)) (x2 : Int32) (x3 : Int32) (x4 : Int32) (x5 : Int32) (x6 : Int32) (x7 : Int32) (x8 : Int32) (x9 : Int32) (x10 : Int32) (x11 : Int32) (x12 : Int32) (x13 : Int32) (x14 : Int32) (x15 : Int32) (x16 : Int32) (x17 : Int32) (r1 : Nat) (t0 : Int32) (t1 : Int32) (z : ow_MS) : Option (Int32 × ow_MS) :=
 rdI mX z 53 t0 fun v24 => rdJ mX z 54 ((16 * x16) + x16) fun v25 => wrJ mX z 54 ((16 * x16) + x16) (v25 + x15.toInt64) fun z26 => rdJ mX z26 54 ((16 * v24) + v24) fun v27 => wrJ mX z26 54 ((16 * v24) + v24) (v27 + x15.toInt64) fun z28 => rdJ mX z28 54 ((16 * x16) + v24) fun v29 => wrJ mX z28 54 ((16 * x16) + v24) (v29 - x15.toInt64) fun z30 => rdJ mX z30 54 ((16 * v24) + x16) fun v31 => wrJ mX z30 54 ((16 * v24) + x16) (v31 - x15.toInt64) fun z32 => (if x14 = 0 then (if x7 = 0 then go 9 x2 x3 x4 x5 x6 x7 x8 x9 x10 x11 x12 x13 x14 x15 x16 v24 r1 (-1) x5 z32
 else go 9 x2 x3 x4 x5 x6 x7 x8 x9 x10 x11 x12 x13 x14 x15 x16 v24 r1 1 x5 z32)
 else go 9 x2 x3 x4 x5 x6 x7 x8 x9 x10 x11 x12 x13 x14 x15 x16 v24 r1 0 x5 z32)
def qm_X13_signatureOf_9 (K : Nat) (go : Nat → Int32 → Int32 → Int32 → Int32 → Int32 → Int32 → Int32 → Int32 → Int32 → Int32 → Int32 → Int32 → Int32 → Int32 → Int32 → Int32 → Nat → Int32 → Int32 → ow_MS → Option (Int32 × ow_MS)) (x2 : Int32) (x3 : Int32) (x4 : Int32) (x5 : Int32) (x6 : Int32) (x7 : Int32) (x8 : Int32) (x9 : Int32) (x10 : Int32) (x11 : Int32) (x12 : Int32) (x13 : Int32) (x14 : Int32) (x15 : Int32) (x16 : Int32) (x17 : Int32) (r1 : Nat) (t0 : Int32) (t1 : Int32) (z : ow_MS) : Option (Int32 × ow_MS) :=
 go 10 x2 x3 x4 (t1 + t0) x6 0 0 0 0 0 0 0 0 0 0 0 r1 0 0 z
def qm_X13_signatureOf_10 (K : Nat) (go : Nat → Int32 → Int32 → Int32 → Int32 → Int32 → Int32 → Int32 → Int32 → Int32 → Int32 → Int32 → Int32 → Int32 → Int32 → Int32 → Int32 → Nat → Int32 → Int32 → ow_MS → Option (Int32 × ow_MS)) (x2 : Int32) (x3 : Int32) (x4 : Int32) (x5 : Int32) (x6 : Int32) (x7 : Int32) (x8 : Int32) (x9 : Int32) (x10 : Int32) (x11 : Int32) (x12 : Int32) (x13 : Int32) (x14 : Int32) (x15 : Int32) (x16 : Int32) (x17 : Int32) (r1 : Nat) (t0 : Int32) (t1 : Int32) (z : ow_MS) : Option (Int32 × ow_MS) :=
 go 2 x2 x3 x4 x5 (x6 + 1) 0 0 0 0 0 0 0 0 0 0 0 r1 0 0 z
def qb_X13_signatureOf (K : Nat) (go : Nat → Int32 → Int32 → Int32 → Int32 → Int32 → Int32 → Int32 → Int32 → Int32 → Int32 → Int32 → Int32 → Int32 → Int32 → Int32 → Int32 → Nat → Int32 → Int32 → ow_MS → Option (Int32 × ow_MS)) (L : Nat) (x2 : Int32) (x3 : Int32) (x4 : Int32) (x5 : Int32) (x6 : Int32) (x7 : Int32) (x8 : Int32) (x9 : Int32) (x10 : Int32) (x11 : Int32) (x12 : Int32) (x13 : Int32) (x14 : Int32) (x15 : Int32) (x16 : Int32) (x17 : Int32) (r1 : Nat) (t0 : Int32) (t1 : Int32) (z : ow_MS) : Option (Int32 × ow_MS) := match L with
  | 0 => qm_X13_signatureOf_0 K go x2 x3 x4 x5 x6 x7 x8 x9 x10 x11 x12 x13 x14 x15 x16 x17 r1 t0 t1 z
  | 1 => qm_X13_signatureOf_1 K go x2 x3 x4 x5 x6 x7 x8 x9 x10 x11 x12 x13 x14 x15 x16 x17 r1 t0 t1 z
  | 2 => qm_X13_signatureOf_2 K go x2 x3 x4 x5 x6 x7 x8 x9 x10 x11 x12 x13 x14 x15 x16 x17 r1 t0 t1 z
  | 3 => qm_X13_signatureOf_3 K go x2 x3 x4 x5 x6 x7 x8 x9 x10 x11 x12 x13 x14 x15 x16 x17 r1 t0 t1 z
  | 4 => qm_X13_signatureOf_4 K go x2 x3 x4 x5 x6 x7 x8 x9 x10 x11 x12 x13 x14 x15 x16 x17 r1 t0 t1 z
  | 5 => qm_X13_signatureOf_5 K go x2 x3 x4 x5 x6 x7 x8 x9 x10 x11 x12 x13 x14 x15 x16 x17 r1 t0 t1 z
  | 6 => qm_X13_signatureOf_6 K go x2 x3 x4 x5 x6 x7 x8 x9 x10 x11 x12 x13 x14 x15 x16 x17 r1 t0 t1 z
  | 7 => qm_X13_signatureOf_7 K go x2 x3 x4 x5 x6 x7 x8 x9 x10 x11 x12 x13 x14 x15 x16 x17 r1 t0 t1 z
  | 8 => qm_X13_signatureOf_8 K go x2 x3 x4 x5 x6 x7 x8 x9 x10 x11 x12 x13 x14 x15 x16 x17 r1 t0 t1 z
  | 9 => qm_X13_signatureOf_9 K go x2 x3 x4 x5 x6 x7 x8 x9 x10 x11 x12 x13 x14 x15 x16 x17 r1 t0 t1 z
  | 10 => qm_X13_signatureOf_10 K go x2 x3 x4 x5 x6 x7 x8 x9 x10 x11 x12 x13 x14 x15 x16 x17 r1 t0 t1 z
  | _ => none
def q_X13_signatureOf (K : Nat) : Nat → Nat → Int32 → Int32 → Int32 → Int32 → Int32 → Int32 → Int32 → Int32 → Int32 → Int32 → Int32 → Int32 → Int32 → Int32 → Int32 → Int32 → Nat → Int32 → Int32 → ow_MS → Option (Int32 × ow_MS)
  | 0 => fun _ _ _ _ _ _ _ _ _ _ _ _ _ _ _ _ _ _ _ _ _ => none
  | k + 1 => qb_X13_signatureOf K (q_X13_signatureOf K k)
def qe_X13_signatureOf (K : Nat) (r1 : Nat) (x2 : Int32) (z : ow_MS) : Option (Int32 × ow_MS) := q_X13_signatureOf K K 0 x2 0 0 0 0 0 0 0 0 0 0 0 0 0 0 0 r1 0 0 z
abbrev wm_X13_signatureOf : List Cond := .code yX13_signatureOf cX13_signatureOf 18 (some .int) :: wM
theorem cd_X13_signatureOf : yX13_signatureOf.cls = RX13 ∧ yX13_signatureOf.cls ≠ "java/lang/invoke/MethodHandle" ∧ yX13_signatureOf.cls ≠ "java/lang/invoke/VarHandle" ∧ (parseMethodDescriptor yX13_signatureOf.desc).map (fun d => d.parameters.length) = some 2 := by decide +kernel
set_option maxHeartbeats 4000000 in
set_option maxRecDepth 100000 in
theorem km_X13_signatureOf (l : Launch) (D : va_G) (q : ow_Q5) (u : Nat → Nat) (hU : tw_inj mX u) (K : Nat) (r1 : Nat) (x2 : Int32) (hr1 : mw_net r1) (z z1 : ow_MS) (r : Int32) (hq : qe_X13_signatureOf K r1 x2 z = some (r, z1)) : Met l yX13_signatureOf wm_X13_signatureOf ({ frames := 3, cells := 0, slots := 0, locals := 72 } : Room) (va_Pc [.ref (u 0), .ref (u r1), .int x2] (mw_pre D q u z)) (va_Qi (fun x (_ : Unit) => x = r) (fun _ t => va_P D vwCl (tw mX q u z1) t.heap) (tw_A mX u)) 0 0 (tw_A mX u) := by
  refine Met.ofW (cc := cX13_signatureOf) (maxL := 18) (ret := (some .int)) (by decide) rfl ?_
  intro p e s m args below meth c s₁ B hml hv
  obtain ⟨rfl, hP, hK, hN⟩ := hv
  have hx := B.exec
  have hb := B.bytes
  have hr := B.returns
  have hts := atoms_spec (ws := wm_X13_signatureOf) B.pre
  have hT : ∀ w ∈ wM, w.before ([.ref (u 0), .ref (u r1), .int x2] : List Value).toArray s = true := fun w h => hts w (List.mem_cons_of_mem _ h)
  have hown : s.vm.findClass RX13 = some m.cls := findClass_of_methodNamed B.named
  have hlocks := B.notSynchronized
  have hM : tw_M D vwCl mX q s.heap u z s.heap [] := ⟨hP, va_S.rf⟩
  have hl := lv_entry ([.ref (u 0), .ref (u r1), .int x2]) (n := 18) (Nat.le_of_ble_eq_true rfl)
  rw [lg_entry_eq]
  generalize (lg_sl ([.ref (u 0), .ref (u r1), .int x2]) ++ List.replicate (18 - (lg_sl ([.ref (u 0), .ref (u r1), .int x2])).length) Slot.unset).toArray = ls at hl ⊢
  have hl : lv_has ls 18 [(0, .ref (u 0)), (1, .ref (u r1)), (2, .int x2)] := hl
  refine ow_named (fun QQ hQQ => ?_)
  generalize ([.ref (u 0), .ref (u r1), .int x2] : List Value).toArray = args at hts hT hQQ ⊢
  have key : ∀ k : Nat, (∀ (x2 : Int32) (x3 : Int32) (x4 : Int32) (x5 : Int32) (x6 : Int32) (x7 : Int32) (x8 : Int32) (x9 : Int32) (x10 : Int32) (x11 : Int32) (x12 : Int32) (x13 : Int32) (x14 : Int32) (x15 : Int32) (x16 : Int32) (x17 : Int32) (r1 : Nat) (t0 : Int32) (t1 : Int32) (z : ow_MS) (H : Heap) (locs : List Loc) (ls : Array Slot), mw_net r1 → tw_M D vwCl mX q s.heap u z H locs → lv_has ls 18 [(0, .ref (u 0)), (1, .ref (u r1)), (2, .int x2)] → q_X13_signatureOf K k 0 x2 x3 x4 x5 x6 x7 x8 x9 x10 x11 x12 x13 x14 x15 x16 x17 r1 t0 t1 z = some (r, z1) → W p l e ({ frames := 3, cells := 0, slots := 0, locals := 72 } : Room) s m args below meth c H locs 0 0 QQ (F0 m 0 ls [])) ∧ (∀ (x2 : Int32) (x3 : Int32) (x4 : Int32) (x5 : Int32) (x6 : Int32) (x7 : Int32) (x8 : Int32) (x9 : Int32) (x10 : Int32) (x11 : Int32) (x12 : Int32) (x13 : Int32) (x14 : Int32) (x15 : Int32) (x16 : Int32) (x17 : Int32) (r1 : Nat) (t0 : Int32) (t1 : Int32) (z : ow_MS) (H : Heap) (locs : List Loc) (ls : Array Slot), mw_net r1 → tw_M D vwCl mX q s.heap u z H locs → lv_has ls 18 [(0, .ref (u 0)), (1, .ref (u r1)), (2, .int x2), (3, .int x3), (4, .int x4), (5, .int x5)] → q_X13_signatureOf K k 1 x2 x3 x4 x5 x6 x7 x8 x9 x10 x11 x12 x13 x14 x15 x16 x17 r1 t0 t1 z = some (r, z1) → W p l e ({ frames := 3, cells := 0, slots := 0, locals := 72 } : Room) s m args below meth c H locs 0 0 QQ (F0 m 23 ls [])) ∧ (∀ (x2 : Int32) (x3 : Int32) (x4 : Int32) (x5 : Int32) (x6 : Int32) (x7 : Int32) (x8 : Int32) (x9 : Int32) (x10 : Int32) (x11 : Int32) (x12 : Int32) (x13 : Int32) (x14 : Int32) (x15 : Int32) (x16 : Int32) (x17 : Int32) (r1 : Nat) (t0 : Int32) (t1 : Int32) (z : ow_MS) (H : Heap) (locs : List Loc) (ls : Array Slot), mw_net r1 → tw_M D vwCl mX q s.heap u z H locs → lv_has ls 18 [(0, .ref (u 0)), (1, .ref (u r1)), (2, .int x2), (3, .int x3), (4, .int x4), (5, .int x5), (6, .int x6)] → q_X13_signatureOf K k 2 x2 x3 x4 x5 x6 x7 x8 x9 x10 x11 x12 x13 x14 x15 x16 x17 r1 t0 t1 z = some (r, z1) → W p l e ({ frames := 3, cells := 0, slots := 0, locals := 72 } : Room) s m args below meth c H locs 0 0 QQ (F0 m 51 ls [])) ∧ (∀ (x2 : Int32) (x3 : Int32) (x4 : Int32) (x5 : Int32) (x6 : Int32) (x7 : Int32) (x8 : Int32) (x9 : Int32) (x10 : Int32) (x11 : Int32) (x12 : Int32) (x13 : Int32) (x14 : Int32) (x15 : Int32) (x16 : Int32) (x17 : Int32) (r1 : Nat) (t0 : Int32) (t1 : Int32) (z : ow_MS) (H : Heap) (locs : List Loc) (ls : Array Slot), mw_net r1 → tw_M D vwCl mX q s.heap u z H locs → lv_has ls 18 [(0, .ref (u 0)), (1, .ref (u r1)), (2, .int x2), (3, .int x3), (4, .int x4), (5, .int x5), (6, .int x6)] → q_X13_signatureOf K k 3 x2 x3 x4 x5 x6 x7 x8 x9 x10 x11 x12 x13 x14 x15 x16 x17 r1 t0 t1 z = some (r, z1) → W p l e ({ frames := 3, cells := 0, slots := 0, locals := 72 } : Room) s m args below meth c H locs 0 0 QQ (F0 m 106 ls [.int t0])) ∧ (∀ (x2 : Int32) (x3 : Int32) (x4 : Int32) (x5 : Int32) (x6 : Int32) (x7 : Int32) (x8 : Int32) (x9 : Int32) (x10 : Int32) (x11 : Int32) (x12 : Int32) (x13 : Int32) (x14 : Int32) (x15 : Int32) (x16 : Int32) (x17 : Int32) (r1 : Nat) (t0 : Int32) (t1 : Int32) (z : ow_MS) (H : Heap) (locs : List Loc) (ls : Array Slot), mw_net r1 → tw_M D vwCl mX q s.heap u z H locs → lv_has ls 18 [(0, .ref (u 0)), (1, .ref (u r1)), (2, .int x2), (3, .int x3), (4, .int x4), (5, .int x5), (6, .int x6), (7, .int x7)] → q_X13_signatureOf K k 4 x2 x3 x4 x5 x6 x7 x8 x9 x10 x11 x12 x13 x14 x15 x16 x17 r1 t0 t1 z = some (r, z1) → W p l e ({ frames := 3, cells := 0, slots := 0, locals := 72 } : Room) s m args below meth c H locs 0 0 QQ (F0 m 125 ls [.int t0])) ∧ (∀ (x2 : Int32) (x3 : Int32) (x4 : Int32) (x5 : Int32) (x6 : Int32) (x7 : Int32) (x8 : Int32) (x9 : Int32) (x10 : Int32) (x11 : Int32) (x12 : Int32) (x13 : Int32) (x14 : Int32) (x15 : Int32) (x16 : Int32) (x17 : Int32) (r1 : Nat) (t0 : Int32) (t1 : Int32) (z : ow_MS) (H : Heap) (locs : List Loc) (ls : Array Slot), mw_net r1 → tw_M D vwCl mX q s.heap u z H locs → lv_has ls 18 [(0, .ref (u 0)), (1, .ref (u r1)), (2, .int x2), (3, .int x3), (4, .int x4), (5, .int x5), (6, .int x6), (7, .int x7), (8, .int x8), (9, .int x9), (10, .int x10), (11, .int x11), (12, .int x12), (13, .int x13)] → q_X13_signatureOf K k 5 x2 x3 x4 x5 x6 x7 x8 x9 x10 x11 x12 x13 x14 x15 x16 x17 r1 t0 t1 z = some (r, z1) → W p l e ({ frames := 3, cells := 0, slots := 0, locals := 72 } : Room) s m args below meth c H locs 0 0 QQ (F0 m 208 ls [.int t0])) ∧ (∀ (x2 : Int32) (x3 : Int32) (x4 : Int32) (x5 : Int32) (x6 : Int32) (x7 : Int32) (x8 : Int32) (x9 : Int32) (x10 : Int32) (x11 : Int32) (x12 : Int32) (x13 : Int32) (x14 : Int32) (x15 : Int32) (x16 : Int32) (x17 : Int32) (r1 : Nat) (t0 : Int32) (t1 : Int32) (z : ow_MS) (H : Heap) (locs : List Loc) (ls : Array Slot), mw_net r1 → tw_M D vwCl mX q s.heap u z H locs → lv_has ls 18 [(0, .ref (u 0)), (1, .ref (u r1)), (2, .int x2), (3, .int x3), (4, .int x4), (5, .int x5), (6, .int x6), (7, .int x7), (8, .int x8), (9, .int x9), (10, .int x10), (11, .int x11), (12, .int x12), (13, .int x13), (14, .int x14)] → q_X13_signatureOf K k 6 x2 x3 x4 x5 x6 x7 x8 x9 x10 x11 x12 x13 x14 x15 x16 x17 r1 t0 t1 z = some (r, z1) → W p l e ({ frames := 3, cells := 0, slots := 0, locals := 72 } : Room) s m args below meth c H locs 0 0 QQ (F0 m 222 ls [.int t0])) ∧ (∀ (x2 : Int32) (x3 : Int32) (x4 : Int32) (x5 : Int32) (x6 : Int32) (x7 : Int32) (x8 : Int32) (x9 : Int32) (x10 : Int32) (x11 : Int32) (x12 : Int32) (x13 : Int32) (x14 : Int32) (x15 : Int32) (x16 : Int32) (x17 : Int32) (r1 : Nat) (t0 : Int32) (t1 : Int32) (z : ow_MS) (H : Heap) (locs : List Loc) (ls : Array Slot), mw_net r1 → tw_M D vwCl mX q s.heap u z H locs → lv_has ls 18 [(0, .ref (u 0)), (1, .ref (u r1)), (2, .int x2), (3, .int x3), (4, .int x4), (5, .int x5), (6, .int x6), (7, .int x7), (8, .int x8), (9, .int x9), (10, .int x10), (11, .int x11), (12, .int x12), (13, .int x13), (14, .int x14), (15, .int x15)] → q_X13_signatureOf K k 7 x2 x3 x4 x5 x6 x7 x8 x9 x10 x11 x12 x13 x14 x15 x16 x17 r1 t0 t1 z = some (r, z1) → W p l e ({ frames := 3, cells := 0, slots := 0, locals := 72 } : Room) s m args below meth c H locs 0 0 QQ (F0 m 240 ls [.int t0, .ref (u 53)])) ∧ (∀ (x2 : Int32) (x3 : Int32) (x4 : Int32) (x5 : Int32) (x6 : Int32) (x7 : Int32) (x8 : Int32) (x9 : Int32) (x10 : Int32) (x11 : Int32) (x12 : Int32) (x13 : Int32) (x14 : Int32) (x15 : Int32) (x16 : Int32) (x17 : Int32) (r1 : Nat) (t0 : Int32) (t1 : Int32) (z : ow_MS) (H : Heap) (locs : List Loc) (ls : Array Slot), mw_net r1 → tw_M D vwCl mX q s.heap u z H locs → lv_has ls 18 [(0, .ref (u 0)), (1, .ref (u r1)), (2, .int x2), (3, .int x3), (4, .int x4), (5, .int x5), (6, .int x6), (7, .int x7), (8, .int x8), (9, .int x9), (10, .int x10), (11, .int x11), (12, .int x12), (13, .int x13), (14, .int x14), (15, .int x15), (16, .int x16)] → q_X13_signatureOf K k 8 x2 x3 x4 x5 x6 x7 x8 x9 x10 x11 x12 x13 x14 x15 x16 x17 r1 t0 t1 z = some (r, z1) → W p l e ({ frames := 3, cells := 0, slots := 0, locals := 72 } : Room) s m args below meth c H locs 0 0 QQ (F0 m 259 ls [.int t0, .ref (u 53)])) ∧ (∀ (x2 : Int32) (x3 : Int32) (x4 : Int32) (x5 : Int32) (x6 : Int32) (x7 : Int32) (x8 : Int32) (x9 : Int32) (x10 : Int32) (x11 : Int32) (x12 : Int32) (x13 : Int32) (x14 : Int32) (x15 : Int32) (x16 : Int32) (x17 : Int32) (r1 : Nat) (t0 : Int32) (t1 : Int32) (z : ow_MS) (H : Heap) (locs : List Loc) (ls : Array Slot), mw_net r1 → tw_M D vwCl mX q s.heap u z H locs → lv_has ls 18 [(0, .ref (u 0)), (1, .ref (u r1)), (2, .int x2), (3, .int x3), (4, .int x4), (5, .int x5), (6, .int x6), (7, .int x7), (8, .int x8), (9, .int x9), (10, .int x10), (11, .int x11), (12, .int x12), (13, .int x13), (14, .int x14), (15, .int x15), (16, .int x16), (17, .int x17)] → q_X13_signatureOf K k 9 x2 x3 x4 x5 x6 x7 x8 x9 x10 x11 x12 x13 x14 x15 x16 x17 r1 t0 t1 z = some (r, z1) → W p l e ({ frames := 3, cells := 0, slots := 0, locals := 72 } : Room) s m args below meth c H locs 0 0 QQ (F0 m 359 ls [.int t0, .int t1])) ∧ (∀ (x2 : Int32) (x3 : Int32) (x4 : Int32) (x5 : Int32) (x6 : Int32) (x7 : Int32) (x8 : Int32) (x9 : Int32) (x10 : Int32) (x11 : Int32) (x12 : Int32) (x13 : Int32) (x14 : Int32) (x15 : Int32) (x16 : Int32) (x17 : Int32) (r1 : Nat) (t0 : Int32) (t1 : Int32) (z : ow_MS) (H : Heap) (locs : List Loc) (ls : Array Slot), mw_net r1 → tw_M D vwCl mX q s.heap u z H locs → lv_has ls 18 [(0, .ref (u 0)), (1, .ref (u r1)), (2, .int x2), (3, .int x3), (4, .int x4), (5, .int x5), (6, .int x6)] → q_X13_signatureOf K k 10 x2 x3 x4 x5 x6 x7 x8 x9 x10 x11 x12 x13 x14 x15 x16 x17 r1 t0 t1 z = some (r, z1) → W p l e ({ frames := 3, cells := 0, slots := 0, locals := 72 } : Room) s m args below meth c H locs 0 0 QQ (F0 m 362 ls [])) := by
    intro k
    induction k with
    | zero => exact ⟨fun _ _ _ _ _ _ _ _ _ _ _ _ _ _ _ _ _ _ _ _ _ _ _ _ _ _ hq => tw_no hq, fun _ _ _ _ _ _ _ _ _ _ _ _ _ _ _ _ _ _ _ _ _ _ _ _ _ _ hq => tw_no hq, fun _ _ _ _ _ _ _ _ _ _ _ _ _ _ _ _ _ _ _ _ _ _ _ _ _ _ hq => tw_no hq, fun _ _ _ _ _ _ _ _ _ _ _ _ _ _ _ _ _ _ _ _ _ _ _ _ _ _ hq => tw_no hq, fun _ _ _ _ _ _ _ _ _ _ _ _ _ _ _ _ _ _ _ _ _ _ _ _ _ _ hq => tw_no hq, fun _ _ _ _ _ _ _ _ _ _ _ _ _ _ _ _ _ _ _ _ _ _ _ _ _ _ hq => tw_no hq, fun _ _ _ _ _ _ _ _ _ _ _ _ _ _ _ _ _ _ _ _ _ _ _ _ _ _ hq => tw_no hq, fun _ _ _ _ _ _ _ _ _ _ _ _ _ _ _ _ _ _ _ _ _ _ _ _ _ _ hq => tw_no hq, fun _ _ _ _ _ _ _ _ _ _ _ _ _ _ _ _ _ _ _ _ _ _ _ _ _ _ hq => tw_no hq, fun _ _ _ _ _ _ _ _ _ _ _ _ _ _ _ _ _ _ _ _ _ _ _ _ _ _ hq => tw_no hq, fun _ _ _ _ _ _ _ _ _ _ _ _ _ _ _ _ _ _ _ _ _ _ _ _ _ _ hq => tw_no hq⟩
    | succ k ih =>
      obtain ⟨ih_0, ih_1, ih_2, ih_3, ih_4, ih_5, ih_6, ih_7, ih_8, ih_9, ih_10⟩ := ih
      refine ⟨?_, ?_, ?_, ?_, ?_, ?_, ?_, ?_, ?_, ?_, ?_⟩
      · intro x2 x3 x4 x5 x6 x7 x8 x9 x10 x11 x12 x13 x14 x15 x16 x17 r1 t0 t1 z H locs ls hr1 hM hl hq
        have hq : qm_X13_signatureOf_0 K (q_X13_signatureOf K k) x2 x3 x4 x5 x6 x7 x8 x9 x10 x11 x12 x13 x14 x15 x16 x17 r1 t0 t1 z = some (r, z1) := hq
        unfold qm_X13_signatureOf_0 at hq
        refine lv_aload_n hx hb dmX13_signatureOf_0 rfl (lv_at hl 1 rfl) ?_
        refine mg13_47 hx hb hT hown hK hM hN hr1 dmX13_signatureOf_1 ?_
        refine lv_aload_n hx hb dmX13_signatureOf_4 rfl (lv_at hl 1 rfl) ?_
        refine mg13_18 hx hb hT hown hK hM hN hr1 dmX13_signatureOf_5 ?_
        refine lv_iload_n hx hb dmX13_signatureOf_8 rfl (lv_at hl 2 rfl) ?_
        refine tw_iald mX_ok hx hb hK hM (mrn_8 hr1) hq dmX13_signatureOf_9 (fun v1 hq => ?_)
        refine tw_iald mX_ok hx hb hK hM (mrn_12 hr1) hq dmX13_signatureOf_10 (fun v2 hq => ?_)
        refine lv_istore_n (lv' := [(3, .int v2), (0, .ref (u 0)), (1, .ref (u r1)), (2, .int x2)]) hx hb dmX13_signatureOf_11 rfl hl (by decide) rfl (fun ls hl => ?_)
        refine lv_aload_n hx hb dmX13_signatureOf_12 rfl (lv_at hl 1 rfl) ?_
        refine lv_aload_n hx hb dmX13_signatureOf_13 rfl (lv_at hl 2 rfl) ?_
        refine lv_iload_n hx hb dmX13_signatureOf_14 rfl (lv_at hl 3 rfl) ?_
        obtain ⟨v4, z3, hcq, hq⟩ := tw_cl1 hq
        refine tw_cali hM (va_runV (As := [.ref (u r1), .int x2]) (rest := []) ⟨hx, hb, hml, hown, hts⟩ (km_X13_colourFaces l D q u hU K r1 x2 hr1 z z3 v4 hcq) (cwV 2 hts (tw_gV wM_good wq_327 wq_328 wq_329 wq_61 wq_325) rfl rfl rfl cd_X13_colourFaces ⟨(Nat.le_of_ble_eq_true rfl), (Nat.le_of_ble_eq_true rfl)⟩) (mw_preV hK hN hM mo_0 rfl) rfl rfl hl.1 rfl (lv_room (Nat.le_of_ble_eq_true rfl)) dmX13_signatureOf_15 ⟨(Nat.le_of_ble_eq_true rfl), (Nat.le_of_ble_eq_true rfl)⟩) (fun H locs hM => ?_)
        refine lv_istore (lv' := [(4, .int v4), (3, .int v2), (0, .ref (u 0)), (1, .ref (u r1)), (2, .int x2)]) hx hb dmX13_signatureOf_18 hl (by decide) rfl (fun ls hl => ?_)
        refine lv_iconst (v := 0) hx hb dmX13_signatureOf_20 (by decide) ?_
        refine lv_istore (lv' := [(5, .int 0), (4, .int v4), (3, .int v2), (0, .ref (u 0)), (1, .ref (u r1)), (2, .int x2)]) hx hb dmX13_signatureOf_21 hl (by decide) rfl (fun ls hl => ?_)
        exact ih_1 x2 v2 v4 0 0 0 0 0 0 0 0 0 0 0 0 0 r1 0 0 z3 H locs ls hr1 hM (lv_sub hl [3, 4, 5, 2, 1, 0] rfl) hq
      · intro x2 x3 x4 x5 x6 x7 x8 x9 x10 x11 x12 x13 x14 x15 x16 x17 r1 t0 t1 z H locs ls hr1 hM hl hq
        have hq : qm_X13_signatureOf_1 K (q_X13_signatureOf K k) x2 x3 x4 x5 x6 x7 x8 x9 x10 x11 x12 x13 x14 x15 x16 x17 r1 t0 t1 z = some (r, z1) := hq
        unfold qm_X13_signatureOf_1 at hq
        refine lv_iload hx hb dmX13_signatureOf_23 (lv_at hl 5 rfl) ?_
        refine lv_sipush (v := 256) hx hb dmX13_signatureOf_25 (by decide) ?_
        refine lv_icmp_ge (tgt := 45) hx hb dmX13_signatureOf_28 (by decide) (fun hc => ?_) (fun hc => ?_)
        · have hq := tw_it hq hc
          refine lv_iconst (v := 0) hx hb dmX13_signatureOf_45 (by decide) ?_
          refine lv_istore (lv' := [(5, .int 0), (0, .ref (u 0)), (1, .ref (u r1)), (2, .int x2), (3, .int x3), (4, .int x4)]) hx hb dmX13_signatureOf_46 hl (by decide) rfl (fun ls hl => ?_)
          refine lv_iconst (v := 0) hx hb dmX13_signatureOf_48 (by decide) ?_
          refine lv_istore (lv' := [(6, .int 0), (5, .int 0), (0, .ref (u 0)), (1, .ref (u r1)), (2, .int x2), (3, .int x3), (4, .int x4)]) hx hb dmX13_signatureOf_49 hl (by decide) rfl (fun ls hl => ?_)
          exact ih_2 x2 x3 x4 0 0 0 0 0 0 0 0 0 0 0 0 0 r1 0 0 z H locs ls hr1 hM (lv_sub hl [2, 3, 4, 5, 6, 1, 0] rfl) hq
        · have hq := tw_if hq hc
          refine lv_aload_n hx hb dmX13_signatureOf_31 rfl (lv_at hl 0 rfl) ?_
          refine mg13_220 hx hb hT hown hK hM dmX13_signatureOf_32 ?_
          refine lv_iload hx hb dmX13_signatureOf_35 (lv_at hl 5 rfl) ?_
          refine lv_lconst (v := 0) hx hb dmX13_signatureOf_37 rfl ?_
          refine tw_last mX_ok hU hx hb hK hM mr_54 hq dmX13_signatureOf_38 (fun z5 H locs hM hq => ?_)
          refine lv_iinc (v := (x5 + 1)) (lv' := [(5, .int (x5 + 1)), (0, .ref (u 0)), (1, .ref (u r1)), (2, .int x2), (3, .int x3), (4, .int x4)]) hx hb dmX13_signatureOf_39 hl (k := 5) rfl rfl (by decide) rfl (fun ls hl => ?_)
          refine lv_goto (tgt := 23) hx hb dmX13_signatureOf_42 (by decide) ?_
          exact ih_1 x2 x3 x4 (x5 + 1) 0 0 0 0 0 0 0 0 0 0 0 0 r1 0 0 z5 H locs ls hr1 hM (lv_sub hl [1, 2, 3, 4, 5, 0] rfl) hq
      · intro x2 x3 x4 x5 x6 x7 x8 x9 x10 x11 x12 x13 x14 x15 x16 x17 r1 t0 t1 z H locs ls hr1 hM hl hq
        have hq : qm_X13_signatureOf_2 K (q_X13_signatureOf K k) x2 x3 x4 x5 x6 x7 x8 x9 x10 x11 x12 x13 x14 x15 x16 x17 r1 t0 t1 z = some (r, z1) := hq
        unfold qm_X13_signatureOf_2 at hq
        refine lv_iload hx hb dmX13_signatureOf_51 (lv_at hl 6 rfl) ?_
        refine lv_aload_n hx hb dmX13_signatureOf_53 rfl (lv_at hl 1 rfl) ?_
        refine mg13_44 hx hb hT hown hK hM hN hr1 hq dmX13_signatureOf_54 (fun v6 hq => ?_)
        refine lv_icmp_ge (tgt := 368) hx hb dmX13_signatureOf_57 (by decide) (fun hc => ?_) (fun hc => ?_)
        · have hq := tw_it hq hc
          refine lv_aload_n hx hb dmX13_signatureOf_368 rfl (lv_at hl 0 rfl) ?_
          refine lv_iload hx hb dmX13_signatureOf_369 (lv_at hl 4 rfl) ?_
          refine lv_iconst (v := 1) hx hb dmX13_signatureOf_371 (by decide) ?_
          refine lv_isub hx hb dmX13_signatureOf_372 ?_
          obtain ⟨v8, z7, hcq, hq⟩ := tw_cl1 hq
          refine tw_cali hM (va_runV (As := [.int (x4 - 1)]) (rest := []) ⟨hx, hb, hml, hown, hts⟩ (km_X13_rootsOf l D q u hU K (x4 - 1) z z7 v8 hcq) (cwV 1 hts (tw_gV wM_good wq_330 wq_331 wq_332 wq_61 wq_333) rfl rfl rfl cd_X13_rootsOf ⟨(Nat.le_of_ble_eq_true rfl), (Nat.le_of_ble_eq_true rfl)⟩) (mw_preV hK hN hM mo_0 rfl) rfl rfl hl.1 rfl (lv_room (Nat.le_of_ble_eq_true rfl)) dmX13_signatureOf_373 ⟨(Nat.le_of_ble_eq_true rfl), (Nat.le_of_ble_eq_true rfl)⟩) (fun H locs hM => ?_)
          refine lv_iload hx hb dmX13_signatureOf_376 (lv_at hl 5 rfl) ?_
          refine lv_isub hx hb dmX13_signatureOf_378 ?_
          exact mw_iret hx hb hr hlocks hM hq hQQ dmX13_signatureOf_379
        · have hq := tw_if hq hc
          refine lv_aload_n hx hb dmX13_signatureOf_60 rfl (lv_at hl 1 rfl) ?_
          refine mg13_32 hx hb hT hown hK hM hN hr1 dmX13_signatureOf_61 ?_
          refine lv_iload hx hb dmX13_signatureOf_64 (lv_at hl 6 rfl) ?_
          refine tw_iald mX_ok hx hb hK hM (mrn_5 hr1) hq dmX13_signatureOf_66 (fun v9 hq => ?_)
          refine lv_if_ne (tgt := 362) hx hb dmX13_signatureOf_67 (by decide) (fun hc => ?_) (fun hc => ?_)
          · have hq := tw_if hq hc
            exact ih_10 x2 x3 x4 x5 x6 0 0 0 0 0 0 0 0 0 0 0 r1 0 0 z H locs ls hr1 hM (lv_sub hl [0, 1, 2, 3, 4, 5, 6] rfl) hq
          · have hq := tw_it hq hc
            refine lv_aload_n hx hb dmX13_signatureOf_70 rfl (lv_at hl 1 rfl) ?_
            refine mg13_47 hx hb hT hown hK hM hN hr1 dmX13_signatureOf_71 ?_
            refine lv_aload_n hx hb dmX13_signatureOf_74 rfl (lv_at hl 1 rfl) ?_
            refine mg13_18 hx hb hT hown hK hM hN hr1 dmX13_signatureOf_75 ?_
            refine lv_iload hx hb dmX13_signatureOf_78 (lv_at hl 6 rfl) ?_
            refine tw_iald mX_ok hx hb hK hM (mrn_8 hr1) hq dmX13_signatureOf_80 (fun v10 hq => ?_)
            refine tw_iald mX_ok hx hb hK hM (mrn_12 hr1) hq dmX13_signatureOf_81 (fun v11 hq => ?_)
            refine lv_iload_n hx hb dmX13_signatureOf_82 rfl (lv_at hl 3 rfl) ?_
            refine lv_icmp_ne (tgt := 362) hx hb dmX13_signatureOf_83 (by decide) (fun hc => ?_) (fun hc => ?_)
            · have hq := tw_if hq hc
              exact ih_10 x2 x3 x4 x5 x6 0 0 0 0 0 0 0 0 0 0 0 r1 0 0 z H locs ls hr1 hM (lv_sub hl [0, 1, 2, 3, 4, 5, 6] rfl) hq
            · have hq := tw_it hq hc
              refine lv_aload_n hx hb dmX13_signatureOf_86 rfl (lv_at hl 1 rfl) ?_
              refine mg13_35 hx hb hT hown hK hM hN hr1 dmX13_signatureOf_87 ?_
              refine lv_aload_n hx hb dmX13_signatureOf_90 rfl (lv_at hl 1 rfl) ?_
              refine mg13_23 hx hb hT hown hK hM hN hr1 dmX13_signatureOf_91 ?_
              refine lv_iload hx hb dmX13_signatureOf_94 (lv_at hl 6 rfl) ?_
              refine tw_iald mX_ok hx hb hK hM (mrn_4 hr1) hq dmX13_signatureOf_96 (fun v12 hq => ?_)
              refine tw_iald mX_ok hx hb hK hM (mrn_6 hr1) hq dmX13_signatureOf_97 (fun v13 hq => ?_)
              refine lv_if_le (tgt := 105) hx hb dmX13_signatureOf_98 (by decide) (fun hc => ?_) (fun hc => ?_)
              · have hq := tw_it hq hc
                refine lv_iconst (v := 0) hx hb dmX13_signatureOf_105 (by decide) ?_
                exact ih_3 x2 x3 x4 x5 x6 0 0 0 0 0 0 0 0 0 0 0 r1 0 0 z H locs ls hr1 hM (lv_sub hl [0, 1, 2, 3, 4, 5, 6] rfl) hq
              · have hq := tw_if hq hc
                refine lv_iconst (v := 1) hx hb dmX13_signatureOf_101 (by decide) ?_
                refine lv_goto (tgt := 106) hx hb dmX13_signatureOf_102 (by decide) ?_
                exact ih_3 x2 x3 x4 x5 x6 0 0 0 0 0 0 0 0 0 0 0 r1 1 0 z H locs ls hr1 hM (lv_sub hl [0, 1, 2, 3, 4, 5, 6] rfl) hq
      · intro x2 x3 x4 x5 x6 x7 x8 x9 x10 x11 x12 x13 x14 x15 x16 x17 r1 t0 t1 z H locs ls hr1 hM hl hq
        have hq : qm_X13_signatureOf_3 K (q_X13_signatureOf K k) x2 x3 x4 x5 x6 x7 x8 x9 x10 x11 x12 x13 x14 x15 x16 x17 r1 t0 t1 z = some (r, z1) := hq
        unfold qm_X13_signatureOf_3 at hq
        refine lv_istore (lv' := [(7, .int t0), (0, .ref (u 0)), (1, .ref (u r1)), (2, .int x2), (3, .int x3), (4, .int x4), (5, .int x5), (6, .int x6)]) hx hb dmX13_signatureOf_106 hl (by decide) rfl (fun ls hl => ?_)
        refine lv_iload hx hb dmX13_signatureOf_108 (lv_at hl 0 rfl) ?_
        refine lv_if_eq (tgt := 118) hx hb dmX13_signatureOf_110 (by decide) (fun hc => ?_) (fun hc => ?_)
        · have hq := tw_it hq hc
          refine lv_aload_n hx hb dmX13_signatureOf_118 rfl (lv_at hl 2 rfl) ?_
          refine mg13_41 hx hb hT hown hK hM hN hr1 dmX13_signatureOf_119 ?_
          refine lv_iload hx hb dmX13_signatureOf_122 (lv_at hl 7 rfl) ?_
          refine tw_iald mX_ok hx hb hK hM (mrn_7 hr1) hq dmX13_signatureOf_124 (fun v14 hq => ?_)
          exact ih_4 x2 x3 x4 x5 x6 t0 0 0 0 0 0 0 0 0 0 0 r1 v14 0 z H locs ls hr1 hM (lv_sub hl [1, 2, 3, 4, 5, 6, 7, 0] rfl) hq
        · have hq := tw_if hq hc
          refine lv_iload hx hb dmX13_signatureOf_113 (lv_at hl 7 rfl) ?_
          refine lv_goto (tgt := 125) hx hb dmX13_signatureOf_115 (by decide) ?_
          exact ih_4 x2 x3 x4 x5 x6 t0 0 0 0 0 0 0 0 0 0 0 r1 x6 0 z H locs ls hr1 hM (lv_sub hl [1, 2, 3, 4, 5, 6, 7, 0] rfl) hq
      · intro x2 x3 x4 x5 x6 x7 x8 x9 x10 x11 x12 x13 x14 x15 x16 x17 r1 t0 t1 z H locs ls hr1 hM hl hq
        have hq : qm_X13_signatureOf_4 K (q_X13_signatureOf K k) x2 x3 x4 x5 x6 x7 x8 x9 x10 x11 x12 x13 x14 x15 x16 x17 r1 t0 t1 z = some (r, z1) := hq
        unfold qm_X13_signatureOf_4 at hq
        refine lv_istore (lv' := [(8, .int t0), (0, .ref (u 0)), (1, .ref (u r1)), (2, .int x2), (3, .int x3), (4, .int x4), (5, .int x5), (6, .int x6), (7, .int x7)]) hx hb dmX13_signatureOf_125 hl (by decide) rfl (fun ls hl => ?_)
        refine lv_aload_n hx hb dmX13_signatureOf_127 rfl (lv_at hl 2 rfl) ?_
        refine mg13_41 hx hb hT hown hK hM hN hr1 dmX13_signatureOf_128 ?_
        refine lv_iload hx hb dmX13_signatureOf_131 (lv_at hl 0 rfl) ?_
        refine tw_iald mX_ok hx hb hK hM (mrn_7 hr1) hq dmX13_signatureOf_133 (fun v15 hq => ?_)
        refine lv_istore (lv' := [(9, .int v15), (8, .int t0), (0, .ref (u 0)), (1, .ref (u r1)), (2, .int x2), (3, .int x3), (4, .int x4), (5, .int x5), (6, .int x6), (7, .int x7)]) hx hb dmX13_signatureOf_134 hl (by decide) rfl (fun ls hl => ?_)
        refine lv_aload_n hx hb dmX13_signatureOf_136 rfl (lv_at hl 3 rfl) ?_
        refine mg13_525 hx hb hT hown hK hM hN hr1 dmX13_signatureOf_137 ?_
        refine lv_iconst (v := 2) hx hb dmX13_signatureOf_140 (by decide) ?_
        refine lv_iload hx hb dmX13_signatureOf_141 (lv_at hl 1 rfl) ?_
        refine lv_imul hx hb dmX13_signatureOf_143 ?_
        refine tw_iald mX_ok hx hb hK hM (mrn_14 hr1) hq dmX13_signatureOf_144 (fun v16 hq => ?_)
        refine lv_istore (lv' := [(10, .int v16), (9, .int v15), (8, .int t0), (0, .ref (u 0)), (1, .ref (u r1)), (2, .int x2), (3, .int x3), (4, .int x4), (5, .int x5), (6, .int x6), (7, .int x7)]) hx hb dmX13_signatureOf_145 hl (by decide) rfl (fun ls hl => ?_)
        refine lv_aload_n hx hb dmX13_signatureOf_147 rfl (lv_at hl 4 rfl) ?_
        refine mg13_525 hx hb hT hown hK hM hN hr1 dmX13_signatureOf_148 ?_
        refine lv_iconst (v := 2) hx hb dmX13_signatureOf_151 (by decide) ?_
        refine lv_iload hx hb dmX13_signatureOf_152 (lv_at hl 2 rfl) ?_
        refine lv_imul hx hb dmX13_signatureOf_154 ?_
        refine lv_iconst (v := 1) hx hb dmX13_signatureOf_155 (by decide) ?_
        refine lv_iadd hx hb dmX13_signatureOf_156 ?_
        refine tw_iald mX_ok hx hb hK hM (mrn_14 hr1) hq dmX13_signatureOf_157 (fun v17 hq => ?_)
        refine lv_istore (lv' := [(11, .int v17), (10, .int v16), (9, .int v15), (8, .int t0), (0, .ref (u 0)), (1, .ref (u r1)), (2, .int x2), (3, .int x3), (4, .int x4), (5, .int x5), (6, .int x6), (7, .int x7)]) hx hb dmX13_signatureOf_158 hl (by decide) rfl (fun ls hl => ?_)
        refine lv_aload_n hx hb dmX13_signatureOf_160 rfl (lv_at hl 5 rfl) ?_
        refine mg13_525 hx hb hT hown hK hM hN hr1 dmX13_signatureOf_161 ?_
        refine lv_iconst (v := 2) hx hb dmX13_signatureOf_164 (by decide) ?_
        refine lv_aload_n hx hb dmX13_signatureOf_165 rfl (lv_at hl 5 rfl) ?_
        refine mg13_581 hx hb hT hown hK hM hN hr1 dmX13_signatureOf_166 ?_
        refine lv_iload hx hb dmX13_signatureOf_169 (lv_at hl 3 rfl) ?_
        refine tw_iald mX_ok hx hb hK hM (mrn_10 hr1) hq dmX13_signatureOf_171 (fun v18 hq => ?_)
        refine lv_imul hx hb dmX13_signatureOf_172 ?_
        refine tw_iald mX_ok hx hb hK hM (mrn_14 hr1) hq dmX13_signatureOf_173 (fun v19 hq => ?_)
        refine lv_istore (lv' := [(12, .int v19), (11, .int v17), (10, .int v16), (9, .int v15), (8, .int t0), (0, .ref (u 0)), (1, .ref (u r1)), (2, .int x2), (3, .int x3), (4, .int x4), (5, .int x5), (6, .int x6), (7, .int x7)]) hx hb dmX13_signatureOf_174 hl (by decide) rfl (fun ls hl => ?_)
        refine lv_aload_n hx hb dmX13_signatureOf_176 rfl (lv_at hl 6 rfl) ?_
        refine mg13_525 hx hb hT hown hK hM hN hr1 dmX13_signatureOf_177 ?_
        refine lv_iconst (v := 2) hx hb dmX13_signatureOf_180 (by decide) ?_
        refine lv_aload_n hx hb dmX13_signatureOf_181 rfl (lv_at hl 6 rfl) ?_
        refine mg13_581 hx hb hT hown hK hM hN hr1 dmX13_signatureOf_182 ?_
        refine lv_iload hx hb dmX13_signatureOf_185 (lv_at hl 3 rfl) ?_
        refine tw_iald mX_ok hx hb hK hM (mrn_10 hr1) hq dmX13_signatureOf_187 (fun v20 hq => ?_)
        refine lv_imul hx hb dmX13_signatureOf_188 ?_
        refine tw_iald mX_ok hx hb hK hM (mrn_14 hr1) hq dmX13_signatureOf_189 (fun v21 hq => ?_)
        refine lv_istore (lv' := [(13, .int v21), (12, .int v19), (11, .int v17), (10, .int v16), (9, .int v15), (8, .int t0), (0, .ref (u 0)), (1, .ref (u r1)), (2, .int x2), (3, .int x3), (4, .int x4), (5, .int x5), (6, .int x6), (7, .int x7)]) hx hb dmX13_signatureOf_190 hl (by decide) rfl (fun ls hl => ?_)
        refine lv_aload_n hx hb dmX13_signatureOf_192 rfl (lv_at hl 6 rfl) ?_
        refine mg13_214 hx hb hT hown hK hM dmX13_signatureOf_193 ?_
        refine lv_iload hx hb dmX13_signatureOf_196 (lv_at hl 3 rfl) ?_
        refine tw_iald mX_ok hx hb hK hM mr_52 hq dmX13_signatureOf_198 (fun v22 hq => ?_)
        refine lv_iconst (v := 1) hx hb dmX13_signatureOf_199 (by decide) ?_
        refine lv_icmp_ne (tgt := 207) hx hb dmX13_signatureOf_200 (by decide) (fun hc => ?_) (fun hc => ?_)
        · have hq := tw_if hq hc
          refine lv_iconst (v := 0) hx hb dmX13_signatureOf_207 (by decide) ?_
          exact ih_5 x2 x3 x4 x5 x6 x7 t0 v15 v16 v17 v19 v21 0 0 0 0 r1 0 0 z H locs ls hr1 hM (lv_sub hl [6, 7, 8, 9, 10, 11, 12, 13, 5, 4, 3, 2, 1, 0] rfl) hq
        · have hq := tw_it hq hc
          refine lv_iconst (v := 1) hx hb dmX13_signatureOf_203 (by decide) ?_
          refine lv_goto (tgt := 208) hx hb dmX13_signatureOf_204 (by decide) ?_
          exact ih_5 x2 x3 x4 x5 x6 x7 t0 v15 v16 v17 v19 v21 0 0 0 0 r1 1 0 z H locs ls hr1 hM (lv_sub hl [6, 7, 8, 9, 10, 11, 12, 13, 5, 4, 3, 2, 1, 0] rfl) hq
      · intro x2 x3 x4 x5 x6 x7 x8 x9 x10 x11 x12 x13 x14 x15 x16 x17 r1 t0 t1 z H locs ls hr1 hM hl hq
        have hq : qm_X13_signatureOf_5 K (q_X13_signatureOf K k) x2 x3 x4 x5 x6 x7 x8 x9 x10 x11 x12 x13 x14 x15 x16 x17 r1 t0 t1 z = some (r, z1) := hq
        unfold qm_X13_signatureOf_5 at hq
        refine lv_istore (lv' := [(14, .int t0), (0, .ref (u 0)), (1, .ref (u r1)), (2, .int x2), (3, .int x3), (4, .int x4), (5, .int x5), (6, .int x6), (7, .int x7), (8, .int x8), (9, .int x9), (10, .int x10), (11, .int x11), (12, .int x12), (13, .int x13)]) hx hb dmX13_signatureOf_208 hl (by decide) rfl (fun ls hl => ?_)
        refine lv_iload hx hb dmX13_signatureOf_210 (lv_at hl 8 rfl) ?_
        refine lv_iload hx hb dmX13_signatureOf_212 (lv_at hl 0 rfl) ?_
        refine lv_icmp_ne (tgt := 221) hx hb dmX13_signatureOf_214 (by decide) (fun hc => ?_) (fun hc => ?_)
        · have hq := tw_if hq hc
          refine lv_iconst (v := 1) hx hb dmX13_signatureOf_221 (by decide) ?_
          exact ih_6 x2 x3 x4 x5 x6 x7 x8 x9 x10 x11 x12 x13 t0 0 0 0 r1 1 0 z H locs ls hr1 hM (lv_sub hl [1, 2, 3, 4, 5, 6, 7, 8, 9, 10, 11, 12, 13, 14, 0] rfl) hq
        · have hq := tw_it hq hc
          refine lv_iconst (v := (-1)) hx hb dmX13_signatureOf_217 (by decide) ?_
          refine lv_goto (tgt := 222) hx hb dmX13_signatureOf_218 (by decide) ?_
          exact ih_6 x2 x3 x4 x5 x6 x7 x8 x9 x10 x11 x12 x13 t0 0 0 0 r1 (-1) 0 z H locs ls hr1 hM (lv_sub hl [1, 2, 3, 4, 5, 6, 7, 8, 9, 10, 11, 12, 13, 14, 0] rfl) hq
      · intro x2 x3 x4 x5 x6 x7 x8 x9 x10 x11 x12 x13 x14 x15 x16 x17 r1 t0 t1 z H locs ls hr1 hM hl hq
        have hq : qm_X13_signatureOf_6 K (q_X13_signatureOf K k) x2 x3 x4 x5 x6 x7 x8 x9 x10 x11 x12 x13 x14 x15 x16 x17 r1 t0 t1 z = some (r, z1) := hq
        unfold qm_X13_signatureOf_6 at hq
        refine lv_istore (lv' := [(15, .int t0), (0, .ref (u 0)), (1, .ref (u r1)), (2, .int x2), (3, .int x3), (4, .int x4), (5, .int x5), (6, .int x6), (7, .int x7), (8, .int x8), (9, .int x9), (10, .int x10), (11, .int x11), (12, .int x12), (13, .int x13), (14, .int x14)]) hx hb dmX13_signatureOf_222 hl (by decide) rfl (fun ls hl => ?_)
        refine lv_aload_n hx hb dmX13_signatureOf_224 rfl (lv_at hl 1 rfl) ?_
        refine mg13_217 hx hb hT hown hK hM dmX13_signatureOf_225 ?_
        refine lv_iload hx hb dmX13_signatureOf_228 (lv_at hl 15 rfl) ?_
        refine lv_if_eq (tgt := 238) hx hb dmX13_signatureOf_230 (by decide) (fun hc => ?_) (fun hc => ?_)
        · have hq := tw_it hq hc
          refine lv_iload hx hb dmX13_signatureOf_238 (lv_at hl 12 rfl) ?_
          exact ih_7 x2 x3 x4 x5 x6 x7 x8 x9 x10 x11 x12 x13 x14 t0 0 0 r1 x11 0 z H locs ls hr1 hM (lv_sub hl [1, 2, 3, 4, 5, 6, 7, 8, 9, 10, 11, 12, 13, 14, 15, 0] rfl) hq
        · have hq := tw_if hq hc
          refine lv_iload hx hb dmX13_signatureOf_233 (lv_at hl 11 rfl) ?_
          refine lv_goto (tgt := 240) hx hb dmX13_signatureOf_235 (by decide) ?_
          exact ih_7 x2 x3 x4 x5 x6 x7 x8 x9 x10 x11 x12 x13 x14 t0 0 0 r1 x10 0 z H locs ls hr1 hM (lv_sub hl [1, 2, 3, 4, 5, 6, 7, 8, 9, 10, 11, 12, 13, 14, 15, 0] rfl) hq
      · intro x2 x3 x4 x5 x6 x7 x8 x9 x10 x11 x12 x13 x14 x15 x16 x17 r1 t0 t1 z H locs ls hr1 hM hl hq
        have hq : qm_X13_signatureOf_7 K (q_X13_signatureOf K k) x2 x3 x4 x5 x6 x7 x8 x9 x10 x11 x12 x13 x14 x15 x16 x17 r1 t0 t1 z = some (r, z1) := hq
        unfold qm_X13_signatureOf_7 at hq
        refine tw_iald mX_ok hx hb hK hM mr_53 hq dmX13_signatureOf_240 (fun v23 hq => ?_)
        refine lv_istore (lv' := [(16, .int v23), (0, .ref (u 0)), (1, .ref (u r1)), (2, .int x2), (3, .int x3), (4, .int x4), (5, .int x5), (6, .int x6), (7, .int x7), (8, .int x8), (9, .int x9), (10, .int x10), (11, .int x11), (12, .int x12), (13, .int x13), (14, .int x14), (15, .int x15)]) hx hb dmX13_signatureOf_241 hl (by decide) rfl (fun ls hl => ?_)
        refine lv_aload_n hx hb dmX13_signatureOf_243 rfl (lv_at hl 1 rfl) ?_
        refine mg13_217 hx hb hT hown hK hM dmX13_signatureOf_244 ?_
        refine lv_iload hx hb dmX13_signatureOf_247 (lv_at hl 15 rfl) ?_
        refine lv_if_eq (tgt := 257) hx hb dmX13_signatureOf_249 (by decide) (fun hc => ?_) (fun hc => ?_)
        · have hq := tw_it hq hc
          refine lv_iload hx hb dmX13_signatureOf_257 (lv_at hl 13 rfl) ?_
          exact ih_8 x2 x3 x4 x5 x6 x7 x8 x9 x10 x11 x12 x13 x14 x15 v23 0 r1 x12 0 z H locs ls hr1 hM (lv_sub hl [1, 2, 3, 4, 5, 6, 7, 8, 9, 10, 11, 12, 13, 14, 15, 16, 0] rfl) hq
        · have hq := tw_if hq hc
          refine lv_iload hx hb dmX13_signatureOf_252 (lv_at hl 14 rfl) ?_
          refine lv_goto (tgt := 259) hx hb dmX13_signatureOf_254 (by decide) ?_
          exact ih_8 x2 x3 x4 x5 x6 x7 x8 x9 x10 x11 x12 x13 x14 x15 v23 0 r1 x13 0 z H locs ls hr1 hM (lv_sub hl [1, 2, 3, 4, 5, 6, 7, 8, 9, 10, 11, 12, 13, 14, 15, 16, 0] rfl) hq
      · intro x2 x3 x4 x5 x6 x7 x8 x9 x10 x11 x12 x13 x14 x15 x16 x17 r1 t0 t1 z H locs ls hr1 hM hl hq
        have hq : qm_X13_signatureOf_8 K (q_X13_signatureOf K k) x2 x3 x4 x5 x6 x7 x8 x9 x10 x11 x12 x13 x14 x15 x16 x17 r1 t0 t1 z = some (r, z1) := hq
        unfold qm_X13_signatureOf_8 at hq
        refine tw_iald mX_ok hx hb hK hM mr_53 hq dmX13_signatureOf_259 (fun v24 hq => ?_)
        refine lv_istore (lv' := [(17, .int v24), (0, .ref (u 0)), (1, .ref (u r1)), (2, .int x2), (3, .int x3), (4, .int x4), (5, .int x5), (6, .int x6), (7, .int x7), (8, .int x8), (9, .int x9), (10, .int x10), (11, .int x11), (12, .int x12), (13, .int x13), (14, .int x14), (15, .int x15), (16, .int x16)]) hx hb dmX13_signatureOf_260 hl (by decide) rfl (fun ls hl => ?_)
        refine lv_aload_n hx hb dmX13_signatureOf_262 rfl (lv_at hl 1 rfl) ?_
        refine mg13_220 hx hb hT hown hK hM dmX13_signatureOf_263 ?_
        refine lv_bipush (v := 16) hx hb dmX13_signatureOf_266 (by decide) ?_
        refine lv_iload hx hb dmX13_signatureOf_268 (lv_at hl 17 rfl) ?_
        refine lv_imul hx hb dmX13_signatureOf_270 ?_
        refine lv_iload hx hb dmX13_signatureOf_271 (lv_at hl 17 rfl) ?_
        refine lv_iadd hx hb dmX13_signatureOf_273 ?_
        refine lv_dup2_11 hx hb dmX13_signatureOf_274 rfl rfl ?_
        refine tw_lald mX_ok hx hb hK hM mr_54 hq dmX13_signatureOf_275 (fun v25 hq => ?_)
        refine lv_iload hx hb dmX13_signatureOf_276 (lv_at hl 16 rfl) ?_
        refine lv_i2l hx hb dmX13_signatureOf_278 rfl ?_
        refine lv_ladd hx hb dmX13_signatureOf_279 ?_
        refine tw_last mX_ok hU hx hb hK hM mr_54 hq dmX13_signatureOf_280 (fun z26 H locs hM hq => ?_)
        refine lv_aload_n hx hb dmX13_signatureOf_281 rfl (lv_at hl 1 rfl) ?_
        refine mg13_220 hx hb hT hown hK hM dmX13_signatureOf_282 ?_
        refine lv_bipush (v := 16) hx hb dmX13_signatureOf_285 (by decide) ?_
        refine lv_iload hx hb dmX13_signatureOf_287 (lv_at hl 0 rfl) ?_
        refine lv_imul hx hb dmX13_signatureOf_289 ?_
        refine lv_iload hx hb dmX13_signatureOf_290 (lv_at hl 0 rfl) ?_
        refine lv_iadd hx hb dmX13_signatureOf_292 ?_
        refine lv_dup2_11 hx hb dmX13_signatureOf_293 rfl rfl ?_
        refine tw_lald mX_ok hx hb hK hM mr_54 hq dmX13_signatureOf_294 (fun v27 hq => ?_)
        refine lv_iload hx hb dmX13_signatureOf_295 (lv_at hl 16 rfl) ?_
        refine lv_i2l hx hb dmX13_signatureOf_297 rfl ?_
        refine lv_ladd hx hb dmX13_signatureOf_298 ?_
        refine tw_last mX_ok hU hx hb hK hM mr_54 hq dmX13_signatureOf_299 (fun z28 H locs hM hq => ?_)
        refine lv_aload_n hx hb dmX13_signatureOf_300 rfl (lv_at hl 1 rfl) ?_
        refine mg13_220 hx hb hT hown hK hM dmX13_signatureOf_301 ?_
        refine lv_bipush (v := 16) hx hb dmX13_signatureOf_304 (by decide) ?_
        refine lv_iload hx hb dmX13_signatureOf_306 (lv_at hl 17 rfl) ?_
        refine lv_imul hx hb dmX13_signatureOf_308 ?_
        refine lv_iload hx hb dmX13_signatureOf_309 (lv_at hl 0 rfl) ?_
        refine lv_iadd hx hb dmX13_signatureOf_311 ?_
        refine lv_dup2_11 hx hb dmX13_signatureOf_312 rfl rfl ?_
        refine tw_lald mX_ok hx hb hK hM mr_54 hq dmX13_signatureOf_313 (fun v29 hq => ?_)
        refine lv_iload hx hb dmX13_signatureOf_314 (lv_at hl 16 rfl) ?_
        refine lv_i2l hx hb dmX13_signatureOf_316 rfl ?_
        refine lv_lsub hx hb dmX13_signatureOf_317 ?_
        refine tw_last mX_ok hU hx hb hK hM mr_54 hq dmX13_signatureOf_318 (fun z30 H locs hM hq => ?_)
        refine lv_aload_n hx hb dmX13_signatureOf_319 rfl (lv_at hl 1 rfl) ?_
        refine mg13_220 hx hb hT hown hK hM dmX13_signatureOf_320 ?_
        refine lv_bipush (v := 16) hx hb dmX13_signatureOf_323 (by decide) ?_
        refine lv_iload hx hb dmX13_signatureOf_325 (lv_at hl 0 rfl) ?_
        refine lv_imul hx hb dmX13_signatureOf_327 ?_
        refine lv_iload hx hb dmX13_signatureOf_328 (lv_at hl 17 rfl) ?_
        refine lv_iadd hx hb dmX13_signatureOf_330 ?_
        refine lv_dup2_11 hx hb dmX13_signatureOf_331 rfl rfl ?_
        refine tw_lald mX_ok hx hb hK hM mr_54 hq dmX13_signatureOf_332 (fun v31 hq => ?_)
        refine lv_iload hx hb dmX13_signatureOf_333 (lv_at hl 16 rfl) ?_
        refine lv_i2l hx hb dmX13_signatureOf_335 rfl ?_
        refine lv_lsub hx hb dmX13_signatureOf_336 ?_
        refine tw_last mX_ok hU hx hb hK hM mr_54 hq dmX13_signatureOf_337 (fun z32 H locs hM hq => ?_)
        refine lv_iload hx hb dmX13_signatureOf_338 (lv_at hl 6 rfl) ?_
        refine lv_iload hx hb dmX13_signatureOf_340 (lv_at hl 15 rfl) ?_
        refine lv_if_eq (tgt := 349) hx hb dmX13_signatureOf_342 (by decide) (fun hc => ?_) (fun hc => ?_)
        · have hq := tw_it hq hc
          refine lv_iload hx hb dmX13_signatureOf_349 (lv_at hl 8 rfl) ?_
          refine lv_if_eq (tgt := 358) hx hb dmX13_signatureOf_351 (by decide) (fun hc => ?_) (fun hc => ?_)
          · have hq := tw_it hq hc
            refine lv_iconst (v := (-1)) hx hb dmX13_signatureOf_358 (by decide) ?_
            exact ih_9 x2 x3 x4 x5 x6 x7 x8 x9 x10 x11 x12 x13 x14 x15 x16 v24 r1 (-1) x5 z32 H locs ls hr1 hM (lv_sub hl [1, 2, 3, 4, 5, 6, 7, 8, 9, 10, 11, 12, 13, 14, 15, 16, 17, 0] rfl) hq
          · have hq := tw_if hq hc
            refine lv_iconst (v := 1) hx hb dmX13_signatureOf_354 (by decide) ?_
            refine lv_goto (tgt := 359) hx hb dmX13_signatureOf_355 (by decide) ?_
            exact ih_9 x2 x3 x4 x5 x6 x7 x8 x9 x10 x11 x12 x13 x14 x15 x16 v24 r1 1 x5 z32 H locs ls hr1 hM (lv_sub hl [1, 2, 3, 4, 5, 6, 7, 8, 9, 10, 11, 12, 13, 14, 15, 16, 17, 0] rfl) hq
        · have hq := tw_if hq hc
          refine lv_iconst (v := 0) hx hb dmX13_signatureOf_345 (by decide) ?_
          refine lv_goto (tgt := 359) hx hb dmX13_signatureOf_346 (by decide) ?_
          exact ih_9 x2 x3 x4 x5 x6 x7 x8 x9 x10 x11 x12 x13 x14 x15 x16 v24 r1 0 x5 z32 H locs ls hr1 hM (lv_sub hl [1, 2, 3, 4, 5, 6, 7, 8, 9, 10, 11, 12, 13, 14, 15, 16, 17, 0] rfl) hq
      · intro x2 x3 x4 x5 x6 x7 x8 x9 x10 x11 x12 x13 x14 x15 x16 x17 r1 t0 t1 z H locs ls hr1 hM hl hq
        have hq : qm_X13_signatureOf_9 K (q_X13_signatureOf K k) x2 x3 x4 x5 x6 x7 x8 x9 x10 x11 x12 x13 x14 x15 x16 x17 r1 t0 t1 z = some (r, z1) := hq
        unfold qm_X13_signatureOf_9 at hq
        refine lv_iadd hx hb dmX13_signatureOf_359 ?_
        refine lv_istore (lv' := [(5, .int (t1 + t0)), (0, .ref (u 0)), (1, .ref (u r1)), (2, .int x2), (3, .int x3), (4, .int x4), (6, .int x6), (7, .int x7), (8, .int x8), (9, .int x9), (10, .int x10), (11, .int x11), (12, .int x12), (13, .int x13), (14, .int x14), (15, .int x15), (16, .int x16), (17, .int x17)]) hx hb dmX13_signatureOf_360 hl (by decide) rfl (fun ls hl => ?_)
        exact ih_10 x2 x3 x4 (t1 + t0) x6 0 0 0 0 0 0 0 0 0 0 0 r1 0 0 z H locs ls hr1 hM (lv_sub hl [1, 2, 3, 4, 5, 0, 6] rfl) hq
      · intro x2 x3 x4 x5 x6 x7 x8 x9 x10 x11 x12 x13 x14 x15 x16 x17 r1 t0 t1 z H locs ls hr1 hM hl hq
        have hq : qm_X13_signatureOf_10 K (q_X13_signatureOf K k) x2 x3 x4 x5 x6 x7 x8 x9 x10 x11 x12 x13 x14 x15 x16 x17 r1 t0 t1 z = some (r, z1) := hq
        unfold qm_X13_signatureOf_10 at hq
        refine lv_iinc (v := (x6 + 1)) (lv' := [(6, .int (x6 + 1)), (0, .ref (u 0)), (1, .ref (u r1)), (2, .int x2), (3, .int x3), (4, .int x4), (5, .int x5)]) hx hb dmX13_signatureOf_362 hl (k := 6) rfl rfl (by decide) rfl (fun ls hl => ?_)
        refine lv_goto (tgt := 51) hx hb dmX13_signatureOf_365 (by decide) ?_
        exact ih_2 x2 x3 x4 x5 (x6 + 1) 0 0 0 0 0 0 0 0 0 0 0 r1 0 0 z H locs ls hr1 hM (lv_sub hl [1, 2, 3, 4, 5, 6, 0] rfl) hq
  exact (key K).1 x2 0 0 0 0 0 0 0 0 0 0 0 0 0 0 0 r1 0 0 z s.heap [] ls hr1 hM (lv_sub hl [0, 1, 2] rfl) hq
theorem dmX13_signature_0 : decode cX13_signature 0 = .ok (.aload_n 0, 1) := dw_at cX13_signature_k0 (p := 0) rfl (by decide +kernel)
theorem dmX13_signature_1 : decode cX13_signature 1 = .ok (.iconst 0, 1) := dw_at cX13_signature_k0 (p := 1) rfl (by decide +kernel)
theorem dmX13_signature_2 : decode cX13_signature 2 = .ok (.putfield 1, 3) := dw_at cX13_signature_k0 (p := 2) rfl (by decide +kernel)
theorem dmX13_signature_5 : decode cX13_signature 5 = .ok (.aload_n 0, 1) := dw_at cX13_signature_k0 (p := 5) rfl (by decide +kernel)
theorem dmX13_signature_6 : decode cX13_signature 6 = .ok (.iload_n 1, 1) := dw_at cX13_signature_k0 (p := 6) rfl (by decide +kernel)
theorem dmX13_signature_7 : decode cX13_signature 7 = .ok (.invokevirtual 423, 3) := dw_at cX13_signature_k0 (p := 7) rfl (by decide +kernel)
theorem dmX13_signature_10 : decode cX13_signature 10 = .ok (.ifCond .ne 9, 3) := dw_at cX13_signature_k0 (p := 10) rfl (by decide +kernel)
theorem dmX13_signature_13 : decode cX13_signature 13 = .ok (.aload_n 0, 1) := dw_at cX13_signature_k0 (p := 13) rfl (by decide +kernel)
theorem dmX13_signature_14 : decode cX13_signature 14 = .ok (.iconst 1, 1) := dw_at cX13_signature_k0 (p := 14) rfl (by decide +kernel)
theorem dmX13_signature_15 : decode cX13_signature 15 = .ok (.invokevirtual 403, 3) := dw_at cX13_signature_k0 (p := 15) rfl (by decide +kernel)
theorem dmX13_signature_18 : decode cX13_signature 18 = .ok (.ireturn, 1) := dw_at cX13_signature_k0 (p := 18) rfl (by decide +kernel)
theorem dmX13_signature_19 : decode cX13_signature 19 = .ok (.aload_n 0, 1) := dw_at cX13_signature_k0 (p := 19) rfl (by decide +kernel)
theorem dmX13_signature_20 : decode cX13_signature 20 = .ok (.iload_n 1, 1) := dw_at cX13_signature_k0 (p := 20) rfl (by decide +kernel)
theorem dmX13_signature_21 : decode cX13_signature 21 = .ok (.aload_n 0, 1) := dw_at cX13_signature_k0 (p := 21) rfl (by decide +kernel)
theorem dmX13_signature_22 : decode cX13_signature 22 = .ok (.getfield 114, 3) := dw_at cX13_signature_k0 (p := 22) rfl (by decide +kernel)
theorem dmX13_signature_25 : decode cX13_signature 25 = .ok (.invokevirtual 434, 3) := dw_at cX13_signature_k1 (p := 0) rfl (by decide +kernel)
theorem dmX13_signature_28 : decode cX13_signature 28 = .ok (.aload_n 0, 1) := dw_at cX13_signature_k1 (p := 3) rfl (by decide +kernel)
theorem dmX13_signature_29 : decode cX13_signature 29 = .ok (.getfield 114, 3) := dw_at cX13_signature_k1 (p := 4) rfl (by decide +kernel)
theorem dmX13_signature_32 : decode cX13_signature 32 = .ok (.invokevirtual 75, 3) := dw_at cX13_signature_k1 (p := 7) rfl (by decide +kernel)
theorem dmX13_signature_35 : decode cX13_signature 35 = .ok (.aload_n 0, 1) := dw_at cX13_signature_k1 (p := 10) rfl (by decide +kernel)
theorem dmX13_signature_36 : decode cX13_signature 36 = .ok (.getfield 114, 3) := dw_at cX13_signature_k1 (p := 11) rfl (by decide +kernel)
theorem dmX13_signature_39 : decode cX13_signature 39 = .ok (.invokevirtual 516, 3) := dw_at cX13_signature_k1 (p := 14) rfl (by decide +kernel)
theorem dmX13_signature_42 : decode cX13_signature 42 = .ok (.iconst 0, 1) := dw_at cX13_signature_k1 (p := 17) rfl (by decide +kernel)
theorem dmX13_signature_43 : decode cX13_signature 43 = .ok (.istore_n 2, 1) := dw_at cX13_signature_k1 (p := 18) rfl (by decide +kernel)
theorem dmX13_signature_44 : decode cX13_signature 44 = .ok (.iconst 0, 1) := dw_at cX13_signature_k1 (p := 19) rfl (by decide +kernel)
theorem dmX13_signature_45 : decode cX13_signature 45 = .ok (.istore_n 3, 1) := dw_at cX13_signature_k1 (p := 20) rfl (by decide +kernel)
theorem dmX13_signature_46 : decode cX13_signature 46 = .ok (.iload_n 3, 1) := dw_at cX13_signature_k1 (p := 21) rfl (by decide +kernel)
theorem dmX13_signature_47 : decode cX13_signature 47 = .ok (.aload_n 0, 1) := dw_at cX13_signature_k1 (p := 22) rfl (by decide +kernel)
theorem dmX13_signature_48 : decode cX13_signature 48 = .ok (.getfield 114, 3) := dw_at cX13_signature_k1 (p := 23) rfl (by decide +kernel)
theorem dmX13_signature_51 : decode cX13_signature 51 = .ok (.getfield 78, 3) := dw_at cX13_signature_k2 (p := 0) rfl (by decide +kernel)
theorem dmX13_signature_54 : decode cX13_signature 54 = .ok (.if_icmp .ge 88, 3) := dw_at cX13_signature_k2 (p := 3) rfl (by decide +kernel)
theorem dmX13_signature_57 : decode cX13_signature 57 = .ok (.iconst (-1), 1) := dw_at cX13_signature_k2 (p := 6) rfl (by decide +kernel)
theorem dmX13_signature_58 : decode cX13_signature 58 = .ok (.istore 4, 2) := dw_at cX13_signature_k2 (p := 7) rfl (by decide +kernel)
theorem dmX13_signature_60 : decode cX13_signature 60 = .ok (.aload_n 0, 1) := dw_at cX13_signature_k2 (p := 9) rfl (by decide +kernel)
theorem dmX13_signature_61 : decode cX13_signature 61 = .ok (.getfield 114, 3) := dw_at cX13_signature_k2 (p := 10) rfl (by decide +kernel)
theorem dmX13_signature_64 : decode cX13_signature 64 = .ok (.getfield 44, 3) := dw_at cX13_signature_k2 (p := 13) rfl (by decide +kernel)
theorem dmX13_signature_67 : decode cX13_signature 67 = .ok (.iconst 1, 1) := dw_at cX13_signature_k2 (p := 16) rfl (by decide +kernel)
theorem dmX13_signature_68 : decode cX13_signature 68 = .ok (.isub, 1) := dw_at cX13_signature_k2 (p := 17) rfl (by decide +kernel)
theorem dmX13_signature_69 : decode cX13_signature 69 = .ok (.istore 5, 2) := dw_at cX13_signature_k2 (p := 18) rfl (by decide +kernel)
theorem dmX13_signature_71 : decode cX13_signature 71 = .ok (.iload 5, 2) := dw_at cX13_signature_k2 (p := 20) rfl (by decide +kernel)
theorem dmX13_signature_73 : decode cX13_signature 73 = .ok (.ifCond .lt 40, 3) := dw_at cX13_signature_k2 (p := 22) rfl (by decide +kernel)
theorem dmX13_signature_76 : decode cX13_signature 76 = .ok (.aload_n 0, 1) := dw_at cX13_signature_k3 (p := 0) rfl (by decide +kernel)
theorem dmX13_signature_77 : decode cX13_signature 77 = .ok (.getfield 114, 3) := dw_at cX13_signature_k3 (p := 1) rfl (by decide +kernel)
theorem dmX13_signature_80 : decode cX13_signature 80 = .ok (.getfield 47, 3) := dw_at cX13_signature_k3 (p := 4) rfl (by decide +kernel)
theorem dmX13_signature_83 : decode cX13_signature 83 = .ok (.aload_n 0, 1) := dw_at cX13_signature_k3 (p := 7) rfl (by decide +kernel)
theorem dmX13_signature_84 : decode cX13_signature 84 = .ok (.getfield 114, 3) := dw_at cX13_signature_k3 (p := 8) rfl (by decide +kernel)
theorem dmX13_signature_87 : decode cX13_signature 87 = .ok (.getfield 18, 3) := dw_at cX13_signature_k3 (p := 11) rfl (by decide +kernel)
theorem dmX13_signature_90 : decode cX13_signature 90 = .ok (.iload 5, 2) := dw_at cX13_signature_k3 (p := 14) rfl (by decide +kernel)
theorem dmX13_signature_92 : decode cX13_signature 92 = .ok (.iaload, 1) := dw_at cX13_signature_k3 (p := 16) rfl (by decide +kernel)
theorem dmX13_signature_93 : decode cX13_signature 93 = .ok (.iaload, 1) := dw_at cX13_signature_k3 (p := 17) rfl (by decide +kernel)
theorem dmX13_signature_94 : decode cX13_signature 94 = .ok (.iload_n 3, 1) := dw_at cX13_signature_k3 (p := 18) rfl (by decide +kernel)
theorem dmX13_signature_95 : decode cX13_signature 95 = .ok (.if_icmp .ne 8, 3) := dw_at cX13_signature_k3 (p := 19) rfl (by decide +kernel)
theorem dmX13_signature_98 : decode cX13_signature 98 = .ok (.iload 5, 2) := dw_at cX13_signature_k3 (p := 22) rfl (by decide +kernel)
theorem dmX13_signature_100 : decode cX13_signature 100 = .ok (.goto 5, 3) := dw_at cX13_signature_k4 (p := 0) rfl (by decide +kernel)
theorem dmX13_signature_103 : decode cX13_signature 103 = .ok (.iload 4, 2) := dw_at cX13_signature_k4 (p := 3) rfl (by decide +kernel)
theorem dmX13_signature_105 : decode cX13_signature 105 = .ok (.istore 4, 2) := dw_at cX13_signature_k4 (p := 5) rfl (by decide +kernel)
theorem dmX13_signature_107 : decode cX13_signature 107 = .ok (.iinc 5 (-1), 3) := dw_at cX13_signature_k4 (p := 7) rfl (by decide +kernel)
theorem dmX13_signature_110 : decode cX13_signature 110 = .ok (.goto (-39), 3) := dw_at cX13_signature_k4 (p := 10) rfl (by decide +kernel)
theorem dmX13_signature_113 : decode cX13_signature 113 = .ok (.iload_n 2, 1) := dw_at cX13_signature_k4 (p := 13) rfl (by decide +kernel)
theorem dmX13_signature_114 : decode cX13_signature 114 = .ok (.iload 4, 2) := dw_at cX13_signature_k4 (p := 14) rfl (by decide +kernel)
theorem dmX13_signature_116 : decode cX13_signature 116 = .ok (.iconst (-1), 1) := dw_at cX13_signature_k4 (p := 16) rfl (by decide +kernel)
theorem dmX13_signature_117 : decode cX13_signature 117 = .ok (.if_icmp .ne 7, 3) := dw_at cX13_signature_k4 (p := 17) rfl (by decide +kernel)
theorem dmX13_signature_120 : decode cX13_signature 120 = .ok (.iconst 0, 1) := dw_at cX13_signature_k4 (p := 20) rfl (by decide +kernel)
theorem dmX13_signature_121 : decode cX13_signature 121 = .ok (.goto 13, 3) := dw_at cX13_signature_k4 (p := 21) rfl (by decide +kernel)
theorem dmX13_signature_124 : decode cX13_signature 124 = .ok (.aload_n 0, 1) := dw_at cX13_signature_k5 (p := 0) rfl (by decide +kernel)
theorem dmX13_signature_125 : decode cX13_signature 125 = .ok (.aload_n 0, 1) := dw_at cX13_signature_k5 (p := 1) rfl (by decide +kernel)
theorem dmX13_signature_126 : decode cX13_signature 126 = .ok (.getfield 114, 3) := dw_at cX13_signature_k5 (p := 2) rfl (by decide +kernel)
theorem dmX13_signature_129 : decode cX13_signature 129 = .ok (.iload 4, 2) := dw_at cX13_signature_k5 (p := 5) rfl (by decide +kernel)
theorem dmX13_signature_131 : decode cX13_signature 131 = .ok (.invokevirtual 623, 3) := dw_at cX13_signature_k5 (p := 7) rfl (by decide +kernel)
theorem dmX13_signature_134 : decode cX13_signature 134 = .ok (.iadd, 1) := dw_at cX13_signature_k5 (p := 10) rfl (by decide +kernel)
theorem dmX13_signature_135 : decode cX13_signature 135 = .ok (.istore_n 2, 1) := dw_at cX13_signature_k5 (p := 11) rfl (by decide +kernel)
theorem dmX13_signature_136 : decode cX13_signature 136 = .ok (.iinc 3 1, 3) := dw_at cX13_signature_k5 (p := 12) rfl (by decide +kernel)
theorem dmX13_signature_139 : decode cX13_signature 139 = .ok (.goto (-93), 3) := dw_at cX13_signature_k5 (p := 15) rfl (by decide +kernel)
theorem dmX13_signature_142 : decode cX13_signature 142 = .ok (.iload_n 2, 1) := dw_at cX13_signature_k5 (p := 18) rfl (by decide +kernel)
theorem dmX13_signature_143 : decode cX13_signature 143 = .ok (.ireturn, 1) := dw_at cX13_signature_k5 (p := 19) rfl (by decide +kernel)
def qm_X13_signature_0 (K : Nat) (go : Nat → Int32 → Int32 → Int32 → Int32 → Int32 → Int32 → Int32 → ow_MS → Option (Int32 × ow_MS)) (x1 : Int32) (x2 : Int32) (x3 : Int32) (x4 : Int32) (x5 : Int32) (t0 : Int32) (t1 : Int32) (z : ow_MS) : Option (Int32 × ow_MS) :=
 wrF z 1 0 fun z1 => cs1 (qe_X13_has K x1 z1) fun v3 z2 => (if v3 = 0 then cs1 (qe_X13_fails K 1 z2) fun v8 z7 => some (v8, z7)
 else cs0 (qe_X13_open K x1 1000 z2) fun z4 => cs0 (qe_X12_split K 1000 z4) fun z5 => cs0 (qe_X12_walk K 1000 z5) fun z6 => go 1 x1 0 0 0 0 0 0 z6)
def qm_X13_signature_1 (K : Nat) (go : Nat → Int32 → Int32 → Int32 → Int32 → Int32 → Int32 → Int32 → ow_MS → Option (Int32 × ow_MS)) (x1 : Int32) (x2 : Int32) (x3 : Int32) (x4 : Int32) (x5 : Int32) (t0 : Int32) (t1 : Int32) (z : ow_MS) : Option (Int32 × ow_MS) :=
 rdF z (1000 + 13) fun v9 => (if v9 ≤ x3 then some (x2, z)
 else rdF z (1000 + 1) fun v10 => go 2 x1 x2 x3 (-1) (v10 - 1) 0 0 z)
def qm_X13_signature_2 (K : Nat) (go : Nat → Int32 → Int32 → Int32 → Int32 → Int32 → Int32 → Int32 → ow_MS → Option (Int32 × ow_MS)) (x1 : Int32) (x2 : Int32) (x3 : Int32) (x4 : Int32) (x5 : Int32) (t0 : Int32) (t1 : Int32) (z : ow_MS) : Option (Int32 × ow_MS) :=
 (if x5 < 0 then (if x4 = (-1) then go 4 x1 x2 x3 x4 x5 0 x2 z
 else cs1 (qe_X13_signatureOf K 1000 x4 z) fun v12 z11 => go 4 x1 x2 x3 x4 x5 v12 x2 z11)
 else rdI mX z (1000 + 8) x5 fun v13 => rdI mX z (1000 + 12) v13 fun v14 => (if v14 = x3 then go 3 x1 x2 x3 x4 x5 x5 0 z
 else go 3 x1 x2 x3 x4 x5 x4 0 z))
def qm_X13_signature_3 (K : Nat) (go : Nat → Int32 → Int32 → Int32 → Int32 → Int32 → Int32 → Int32 → ow_MS → Option (Int32 × ow_MS)) (x1 : Int32) (x2 : Int32) (x3 : Int32) (x4 : Int32) (x5 : Int32) (t0 : Int32) (t1 : Int32) (z : ow_MS) : Option (Int32 × ow_MS) :=
 go 2 x1 x2 x3 t0 (x5 + (-1)) 0 0 z
def qm_X13_signature_4 (K : Nat) (go : Nat → Int32 → Int32 → Int32 → Int32 → Int32 → Int32 → Int32 → ow_MS → Option (Int32 × ow_MS)) (x1 : Int32) (x2 : Int32) (x3 : Int32) (x4 : Int32) (x5 : Int32) (t0 : Int32) (t1 : Int32) (z : ow_MS) : Option (Int32 × ow_MS) :=
 go 1 x1 (t1 + t0) (x3 + 1) 0 0 0 0 z
def qb_X13_signature (K : Nat) (go : Nat → Int32 → Int32 → Int32 → Int32 → Int32 → Int32 → Int32 → ow_MS → Option (Int32 × ow_MS)) (L : Nat) (x1 : Int32) (x2 : Int32) (x3 : Int32) (x4 : Int32) (x5 : Int32) (t0 : Int32) (t1 : Int32) (z : ow_MS) : Option (Int32 × ow_MS) := match L with
  | 0 => qm_X13_signature_0 K go x1 x2 x3 x4 x5 t0 t1 z
  | 1 => qm_X13_signature_1 K go x1 x2 x3 x4 x5 t0 t1 z
  | 2 => qm_X13_signature_2 K go x1 x2 x3 x4 x5 t0 t1 z
  | 3 => qm_X13_signature_3 K go x1 x2 x3 x4 x5 t0 t1 z
  | 4 => qm_X13_signature_4 K go x1 x2 x3 x4 x5 t0 t1 z
  | _ => none
def q_X13_signature (K : Nat) : Nat → Nat → Int32 → Int32 → Int32 → Int32 → Int32 → Int32 → Int32 → ow_MS → Option (Int32 × ow_MS)
  | 0 => fun _ _ _ _ _ _ _ _ _ => none
  | k + 1 => qb_X13_signature K (q_X13_signature K k)
def qe_X13_signature (K : Nat) (x1 : Int32) (z : ow_MS) : Option (Int32 × ow_MS) := q_X13_signature K K 0 x1 0 0 0 0 0 0 z
abbrev wm_X13_signature : List Cond := .code yX13_signature cX13_signature 6 (some .int) :: wM
theorem cd_X13_signature : yX13_signature.cls = RX13 ∧ yX13_signature.cls ≠ "java/lang/invoke/MethodHandle" ∧ yX13_signature.cls ≠ "java/lang/invoke/VarHandle" ∧ (parseMethodDescriptor yX13_signature.desc).map (fun d => d.parameters.length) = some 1 := by decide +kernel
set_option maxHeartbeats 4000000 in
set_option maxRecDepth 100000 in
theorem km_X13_signature (l : Launch) (D : va_G) (q : ow_Q5) (u : Nat → Nat) (hU : tw_inj mX u) (K : Nat) (x1 : Int32)  (z z1 : ow_MS) (r : Int32) (hq : qe_X13_signature K x1 z = some (r, z1)) : Met l yX13_signature wm_X13_signature ({ frames := 4, cells := 0, slots := 0, locals := 109 } : Room) (va_Pc [.ref (u 0), .int x1] (mw_pre D q u z)) (va_Qi (fun x (_ : Unit) => x = r) (fun _ t => va_P D vwCl (tw mX q u z1) t.heap) (tw_A mX u)) 0 0 (tw_A mX u) := by
  refine Met.ofW (cc := cX13_signature) (maxL := 6) (ret := (some .int)) (by decide) rfl ?_
  intro p e s m args below meth c s₁ B hml hv
  obtain ⟨rfl, hP, hK, hN⟩ := hv
  have hx := B.exec
  have hb := B.bytes
  have hr := B.returns
  have hts := atoms_spec (ws := wm_X13_signature) B.pre
  have hT : ∀ w ∈ wM, w.before ([.ref (u 0), .int x1] : List Value).toArray s = true := fun w h => hts w (List.mem_cons_of_mem _ h)
  have hown : s.vm.findClass RX13 = some m.cls := findClass_of_methodNamed B.named
  have hlocks := B.notSynchronized
  have hM : tw_M D vwCl mX q s.heap u z s.heap [] := ⟨hP, va_S.rf⟩
  have hl := lv_entry ([.ref (u 0), .int x1]) (n := 6) (Nat.le_of_ble_eq_true rfl)
  rw [lg_entry_eq]
  generalize (lg_sl ([.ref (u 0), .int x1]) ++ List.replicate (6 - (lg_sl ([.ref (u 0), .int x1])).length) Slot.unset).toArray = ls at hl ⊢
  have hl : lv_has ls 6 [(0, .ref (u 0)), (1, .int x1)] := hl
  refine ow_named (fun QQ hQQ => ?_)
  generalize ([.ref (u 0), .int x1] : List Value).toArray = args at hts hT hQQ ⊢
  have key : ∀ k : Nat, (∀ (x1 : Int32) (x2 : Int32) (x3 : Int32) (x4 : Int32) (x5 : Int32) (t0 : Int32) (t1 : Int32) (z : ow_MS) (H : Heap) (locs : List Loc) (ls : Array Slot), tw_M D vwCl mX q s.heap u z H locs → lv_has ls 6 [(0, .ref (u 0)), (1, .int x1)] → q_X13_signature K k 0 x1 x2 x3 x4 x5 t0 t1 z = some (r, z1) → W p l e ({ frames := 4, cells := 0, slots := 0, locals := 109 } : Room) s m args below meth c H locs 0 0 QQ (F0 m 0 ls [])) ∧ (∀ (x1 : Int32) (x2 : Int32) (x3 : Int32) (x4 : Int32) (x5 : Int32) (t0 : Int32) (t1 : Int32) (z : ow_MS) (H : Heap) (locs : List Loc) (ls : Array Slot), tw_M D vwCl mX q s.heap u z H locs → lv_has ls 6 [(0, .ref (u 0)), (1, .int x1), (2, .int x2), (3, .int x3)] → q_X13_signature K k 1 x1 x2 x3 x4 x5 t0 t1 z = some (r, z1) → W p l e ({ frames := 4, cells := 0, slots := 0, locals := 109 } : Room) s m args below meth c H locs 0 0 QQ (F0 m 46 ls [])) ∧ (∀ (x1 : Int32) (x2 : Int32) (x3 : Int32) (x4 : Int32) (x5 : Int32) (t0 : Int32) (t1 : Int32) (z : ow_MS) (H : Heap) (locs : List Loc) (ls : Array Slot), tw_M D vwCl mX q s.heap u z H locs → lv_has ls 6 [(0, .ref (u 0)), (1, .int x1), (2, .int x2), (3, .int x3), (4, .int x4), (5, .int x5)] → q_X13_signature K k 2 x1 x2 x3 x4 x5 t0 t1 z = some (r, z1) → W p l e ({ frames := 4, cells := 0, slots := 0, locals := 109 } : Room) s m args below meth c H locs 0 0 QQ (F0 m 71 ls [])) ∧ (∀ (x1 : Int32) (x2 : Int32) (x3 : Int32) (x4 : Int32) (x5 : Int32) (t0 : Int32) (t1 : Int32) (z : ow_MS) (H : Heap) (locs : List Loc) (ls : Array Slot), tw_M D vwCl mX q s.heap u z H locs → lv_has ls 6 [(0, .ref (u 0)), (1, .int x1), (2, .int x2), (3, .int x3), (4, .int x4), (5, .int x5)] → q_X13_signature K k 3 x1 x2 x3 x4 x5 t0 t1 z = some (r, z1) → W p l e ({ frames := 4, cells := 0, slots := 0, locals := 109 } : Room) s m args below meth c H locs 0 0 QQ (F0 m 105 ls [.int t0])) ∧ (∀ (x1 : Int32) (x2 : Int32) (x3 : Int32) (x4 : Int32) (x5 : Int32) (t0 : Int32) (t1 : Int32) (z : ow_MS) (H : Heap) (locs : List Loc) (ls : Array Slot), tw_M D vwCl mX q s.heap u z H locs → lv_has ls 6 [(0, .ref (u 0)), (1, .int x1), (2, .int x2), (3, .int x3), (4, .int x4), (5, .int x5)] → q_X13_signature K k 4 x1 x2 x3 x4 x5 t0 t1 z = some (r, z1) → W p l e ({ frames := 4, cells := 0, slots := 0, locals := 109 } : Room) s m args below meth c H locs 0 0 QQ (F0 m 134 ls [.int t0, .int t1])) := by
    intro k
    induction k with
    | zero => exact ⟨fun _ _ _ _ _ _ _ _ _ _ _  _ _ hq => tw_no hq, fun _ _ _ _ _ _ _ _ _ _ _  _ _ hq => tw_no hq, fun _ _ _ _ _ _ _ _ _ _ _  _ _ hq => tw_no hq, fun _ _ _ _ _ _ _ _ _ _ _  _ _ hq => tw_no hq, fun _ _ _ _ _ _ _ _ _ _ _  _ _ hq => tw_no hq⟩
    | succ k ih =>
      obtain ⟨ih_0, ih_1, ih_2, ih_3, ih_4⟩ := ih
      refine ⟨?_, ?_, ?_, ?_, ?_⟩
      · intro x1 x2 x3 x4 x5 t0 t1 z H locs ls  hM hl hq
        have hq : qm_X13_signature_0 K (q_X13_signature K k) x1 x2 x3 x4 x5 t0 t1 z = some (r, z1) := hq
        unfold qm_X13_signature_0 at hq
        refine lv_aload_n hx hb dmX13_signature_0 rfl (lv_at hl 0 rfl) ?_
        refine lv_iconst (v := 0) hx hb dmX13_signature_1 (by decide) ?_
        refine mp13_1 hx hb hT hown hK hM hU hq dmX13_signature_2 (fun z1 H locs hM hq => ?_)
        refine lv_aload_n hx hb dmX13_signature_5 rfl (lv_at hl 0 rfl) ?_
        refine lv_iload_n hx hb dmX13_signature_6 rfl (lv_at hl 1 rfl) ?_
        obtain ⟨v3, z2, hcq, hq⟩ := tw_cl1 hq
        refine tw_cali hM (va_runV (As := [.int x1]) (rest := []) ⟨hx, hb, hml, hown, hts⟩ (km_X13_has l D q u hU K x1 z1 z2 v3 hcq) (cwV 1 hts (tw_gV wM_good wq_127 wq_128 wq_129 wq_61 wq_90) rfl rfl rfl cd_X13_has ⟨(Nat.le_of_ble_eq_true rfl), (Nat.le_of_ble_eq_true rfl)⟩) (mw_preV hK hN hM mo_0 rfl) rfl rfl hl.1 rfl (lv_room (Nat.le_of_ble_eq_true rfl)) dmX13_signature_7 ⟨(Nat.le_of_ble_eq_true rfl), (Nat.le_of_ble_eq_true rfl)⟩) (fun H locs hM => ?_)
        refine lv_if_ne (tgt := 19) hx hb dmX13_signature_10 (by decide) (fun hc => ?_) (fun hc => ?_)
        · have hq := tw_if hq hc
          refine lv_aload_n hx hb dmX13_signature_19 rfl (lv_at hl 0 rfl) ?_
          refine lv_iload_n hx hb dmX13_signature_20 rfl (lv_at hl 1 rfl) ?_
          refine lv_aload_n hx hb dmX13_signature_21 rfl (lv_at hl 0 rfl) ?_
          refine mg13_114 hx hb hT hown hK hM dmX13_signature_22 ?_
          obtain ⟨z4, hcq, hq⟩ := tw_cl0 hq
          refine tw_calv hM (va_runV (As := [.int x1, .ref (u 1000)]) (rest := []) ⟨hx, hb, hml, hown, hts⟩ (km_X13_open l D q u hU K x1 1000 mw_n1 z2 z4 hcq) (cwV 2 hts (tw_gV wM_good wq_138 wq_139 wq_140 wq_61 wq_136) rfl rfl rfl cd_X13_open ⟨(Nat.le_of_ble_eq_true rfl), (Nat.le_of_ble_eq_true rfl)⟩) (mw_preV hK hN hM mo_0 rfl) rfl rfl hl.1 rfl (lv_room (Nat.le_of_ble_eq_true rfl)) dmX13_signature_25 ⟨(Nat.le_of_ble_eq_true rfl), (Nat.le_of_ble_eq_true rfl)⟩) (fun H locs hM => ?_)
          refine lv_aload_n hx hb dmX13_signature_28 rfl (lv_at hl 0 rfl) ?_
          refine mg13_114 hx hb hT hown hK hM dmX13_signature_29 ?_
          obtain ⟨z5, hcq, hq⟩ := tw_cl0 hq
          refine tw_calv hM (va_runV (As := []) (rest := []) ⟨hx, hb, hml, hown, hts⟩ (km_X12_split l D q u hU K 1000 mw_n1 z4 z5 hcq) (cwV 0 hts (tw_gV wM_good wq_80 wq_39 wq_40 wq_13 wq_33) rfl rfl rfl cd_X12_split ⟨(Nat.le_of_ble_eq_true rfl), (Nat.le_of_ble_eq_true rfl)⟩) (mw_preV hK hN hM (mo_n mw_n1) rfl) rfl rfl hl.1 rfl (lv_room (Nat.le_of_ble_eq_true rfl)) dmX13_signature_32 ⟨(Nat.le_of_ble_eq_true rfl), (Nat.le_of_ble_eq_true rfl)⟩) (fun H locs hM => ?_)
          refine lv_aload_n hx hb dmX13_signature_35 rfl (lv_at hl 0 rfl) ?_
          refine mg13_114 hx hb hT hown hK hM dmX13_signature_36 ?_
          obtain ⟨z6, hcq, hq⟩ := tw_cl0 hq
          refine tw_calv hM (va_runV (As := []) (rest := []) ⟨hx, hb, hml, hown, hts⟩ (km_X12_walk l D q u hU K 1000 mw_n1 z5 z6 hcq) (cwV 0 hts (tw_gV wM_good wq_225 wq_42 wq_43 wq_13 wq_37) rfl rfl rfl cd_X12_walk ⟨(Nat.le_of_ble_eq_true rfl), (Nat.le_of_ble_eq_true rfl)⟩) (mw_preV hK hN hM (mo_n mw_n1) rfl) rfl rfl hl.1 rfl (lv_room (Nat.le_of_ble_eq_true rfl)) dmX13_signature_39 ⟨(Nat.le_of_ble_eq_true rfl), (Nat.le_of_ble_eq_true rfl)⟩) (fun H locs hM => ?_)
          refine lv_iconst (v := 0) hx hb dmX13_signature_42 (by decide) ?_
          refine lv_istore_n (lv' := [(2, .int 0), (0, .ref (u 0)), (1, .int x1)]) hx hb dmX13_signature_43 rfl hl (by decide) rfl (fun ls hl => ?_)
          refine lv_iconst (v := 0) hx hb dmX13_signature_44 (by decide) ?_
          refine lv_istore_n (lv' := [(3, .int 0), (2, .int 0), (0, .ref (u 0)), (1, .int x1)]) hx hb dmX13_signature_45 rfl hl (by decide) rfl (fun ls hl => ?_)
          exact ih_1 x1 0 0 0 0 0 0 z6 H locs ls hM (lv_sub hl [2, 3, 1, 0] rfl) hq
        · have hq := tw_it hq hc
          refine lv_aload_n hx hb dmX13_signature_13 rfl (lv_at hl 0 rfl) ?_
          refine lv_iconst (v := 1) hx hb dmX13_signature_14 (by decide) ?_
          obtain ⟨v8, z7, hcq, hq⟩ := tw_cl1 hq
          refine tw_cali hM (va_runV (As := [.int 1]) (rest := []) ⟨hx, hb, hml, hown, hts⟩ (km_X13_fails l D q u hU K 1 z2 z7 v8 hcq) (cwV 1 hts (tw_gV wM_good wq_103 wq_104 wq_105 wq_61 wq_50) rfl rfl rfl cd_X13_fails ⟨(Nat.le_of_ble_eq_true rfl), (Nat.le_of_ble_eq_true rfl)⟩) (mw_preV hK hN hM mo_0 rfl) rfl rfl hl.1 rfl (lv_room (Nat.le_of_ble_eq_true rfl)) dmX13_signature_15 ⟨(Nat.le_of_ble_eq_true rfl), (Nat.le_of_ble_eq_true rfl)⟩) (fun H locs hM => ?_)
          exact mw_iret hx hb hr hlocks hM hq hQQ dmX13_signature_18
      · intro x1 x2 x3 x4 x5 t0 t1 z H locs ls  hM hl hq
        have hq : qm_X13_signature_1 K (q_X13_signature K k) x1 x2 x3 x4 x5 t0 t1 z = some (r, z1) := hq
        unfold qm_X13_signature_1 at hq
        refine lv_iload_n hx hb dmX13_signature_46 rfl (lv_at hl 3 rfl) ?_
        refine lv_aload_n hx hb dmX13_signature_47 rfl (lv_at hl 0 rfl) ?_
        refine mg13_114 hx hb hT hown hK hM dmX13_signature_48 ?_
        refine mg13_78 hx hb hT hown hK hM hN mw_n1 hq dmX13_signature_51 (fun v9 hq => ?_)
        refine lv_icmp_ge (tgt := 142) hx hb dmX13_signature_54 (by decide) (fun hc => ?_) (fun hc => ?_)
        · have hq := tw_it hq hc
          refine lv_iload_n hx hb dmX13_signature_142 rfl (lv_at hl 2 rfl) ?_
          exact mw_iret hx hb hr hlocks hM hq hQQ dmX13_signature_143
        · have hq := tw_if hq hc
          refine lv_iconst (v := (-1)) hx hb dmX13_signature_57 (by decide) ?_
          refine lv_istore (lv' := [(4, .int (-1)), (0, .ref (u 0)), (1, .int x1), (2, .int x2), (3, .int x3)]) hx hb dmX13_signature_58 hl (by decide) rfl (fun ls hl => ?_)
          refine lv_aload_n hx hb dmX13_signature_60 rfl (lv_at hl 1 rfl) ?_
          refine mg13_114 hx hb hT hown hK hM dmX13_signature_61 ?_
          refine mg13_44 hx hb hT hown hK hM hN mw_n1 hq dmX13_signature_64 (fun v10 hq => ?_)
          refine lv_iconst (v := 1) hx hb dmX13_signature_67 (by decide) ?_
          refine lv_isub hx hb dmX13_signature_68 ?_
          refine lv_istore (lv' := [(5, .int (v10 - 1)), (4, .int (-1)), (0, .ref (u 0)), (1, .int x1), (2, .int x2), (3, .int x3)]) hx hb dmX13_signature_69 hl (by decide) rfl (fun ls hl => ?_)
          exact ih_2 x1 x2 x3 (-1) (v10 - 1) 0 0 z H locs ls hM (lv_sub hl [2, 3, 4, 5, 1, 0] rfl) hq
      · intro x1 x2 x3 x4 x5 t0 t1 z H locs ls  hM hl hq
        have hq : qm_X13_signature_2 K (q_X13_signature K k) x1 x2 x3 x4 x5 t0 t1 z = some (r, z1) := hq
        unfold qm_X13_signature_2 at hq
        refine lv_iload hx hb dmX13_signature_71 (lv_at hl 5 rfl) ?_
        refine lv_if_lt (tgt := 113) hx hb dmX13_signature_73 (by decide) (fun hc => ?_) (fun hc => ?_)
        · have hq := tw_it hq hc
          refine lv_iload_n hx hb dmX13_signature_113 rfl (lv_at hl 2 rfl) ?_
          refine lv_iload hx hb dmX13_signature_114 (lv_at hl 4 rfl) ?_
          refine lv_iconst (v := (-1)) hx hb dmX13_signature_116 (by decide) ?_
          refine lv_icmp_ne (tgt := 124) hx hb dmX13_signature_117 (by decide) (fun hc => ?_) (fun hc => ?_)
          · have hq := tw_if hq hc
            refine lv_aload_n hx hb dmX13_signature_124 rfl (lv_at hl 0 rfl) ?_
            refine lv_aload_n hx hb dmX13_signature_125 rfl (lv_at hl 0 rfl) ?_
            refine mg13_114 hx hb hT hown hK hM dmX13_signature_126 ?_
            refine lv_iload hx hb dmX13_signature_129 (lv_at hl 4 rfl) ?_
            obtain ⟨v12, z11, hcq, hq⟩ := tw_cl1 hq
            refine tw_cali hM (va_runV (As := [.ref (u 1000), .int x4]) (rest := [.int x2]) ⟨hx, hb, hml, hown, hts⟩ (km_X13_signatureOf l D q u hU K 1000 x4 mw_n1 z z11 v12 hcq) (cwV 2 hts (tw_gV wM_good wq_350 wq_351 wq_352 wq_61 wq_349) rfl rfl rfl cd_X13_signatureOf ⟨(Nat.le_of_ble_eq_true rfl), (Nat.le_of_ble_eq_true rfl)⟩) (mw_preV hK hN hM mo_0 rfl) rfl rfl hl.1 rfl (lv_room (Nat.le_of_ble_eq_true rfl)) dmX13_signature_131 ⟨(Nat.le_of_ble_eq_true rfl), (Nat.le_of_ble_eq_true rfl)⟩) (fun H locs hM => ?_)
            exact ih_4 x1 x2 x3 x4 x5 v12 x2 z11 H locs ls hM (lv_sub hl [0, 1, 2, 3, 4, 5] rfl) hq
          · have hq := tw_it hq hc
            refine lv_iconst (v := 0) hx hb dmX13_signature_120 (by decide) ?_
            refine lv_goto (tgt := 134) hx hb dmX13_signature_121 (by decide) ?_
            exact ih_4 x1 x2 x3 x4 x5 0 x2 z H locs ls hM (lv_sub hl [0, 1, 2, 3, 4, 5] rfl) hq
        · have hq := tw_if hq hc
          refine lv_aload_n hx hb dmX13_signature_76 rfl (lv_at hl 0 rfl) ?_
          refine mg13_114 hx hb hT hown hK hM dmX13_signature_77 ?_
          refine mg13_47 hx hb hT hown hK hM hN mw_n1 dmX13_signature_80 ?_
          refine lv_aload_n hx hb dmX13_signature_83 rfl (lv_at hl 0 rfl) ?_
          refine mg13_114 hx hb hT hown hK hM dmX13_signature_84 ?_
          refine mg13_18 hx hb hT hown hK hM hN mw_n1 dmX13_signature_87 ?_
          refine lv_iload hx hb dmX13_signature_90 (lv_at hl 5 rfl) ?_
          refine tw_iald mX_ok hx hb hK hM (mrn_8 mw_n1) hq dmX13_signature_92 (fun v13 hq => ?_)
          refine tw_iald mX_ok hx hb hK hM (mrn_12 mw_n1) hq dmX13_signature_93 (fun v14 hq => ?_)
          refine lv_iload_n hx hb dmX13_signature_94 rfl (lv_at hl 3 rfl) ?_
          refine lv_icmp_ne (tgt := 103) hx hb dmX13_signature_95 (by decide) (fun hc => ?_) (fun hc => ?_)
          · have hq := tw_if hq hc
            refine lv_iload hx hb dmX13_signature_103 (lv_at hl 4 rfl) ?_
            exact ih_3 x1 x2 x3 x4 x5 x4 0 z H locs ls hM (lv_sub hl [0, 1, 2, 3, 4, 5] rfl) hq
          · have hq := tw_it hq hc
            refine lv_iload hx hb dmX13_signature_98 (lv_at hl 5 rfl) ?_
            refine lv_goto (tgt := 105) hx hb dmX13_signature_100 (by decide) ?_
            exact ih_3 x1 x2 x3 x4 x5 x5 0 z H locs ls hM (lv_sub hl [0, 1, 2, 3, 4, 5] rfl) hq
      · intro x1 x2 x3 x4 x5 t0 t1 z H locs ls  hM hl hq
        have hq : qm_X13_signature_3 K (q_X13_signature K k) x1 x2 x3 x4 x5 t0 t1 z = some (r, z1) := hq
        unfold qm_X13_signature_3 at hq
        refine lv_istore (lv' := [(4, .int t0), (0, .ref (u 0)), (1, .int x1), (2, .int x2), (3, .int x3), (5, .int x5)]) hx hb dmX13_signature_105 hl (by decide) rfl (fun ls hl => ?_)
        refine lv_iinc (v := (x5 + (-1))) (lv' := [(5, .int (x5 + (-1))), (4, .int t0), (0, .ref (u 0)), (1, .int x1), (2, .int x2), (3, .int x3)]) hx hb dmX13_signature_107 hl (k := 5) rfl rfl (by decide) rfl (fun ls hl => ?_)
        refine lv_goto (tgt := 71) hx hb dmX13_signature_110 (by decide) ?_
        exact ih_2 x1 x2 x3 t0 (x5 + (-1)) 0 0 z H locs ls hM (lv_sub hl [2, 3, 4, 5, 1, 0] rfl) hq
      · intro x1 x2 x3 x4 x5 t0 t1 z H locs ls  hM hl hq
        have hq : qm_X13_signature_4 K (q_X13_signature K k) x1 x2 x3 x4 x5 t0 t1 z = some (r, z1) := hq
        unfold qm_X13_signature_4 at hq
        refine lv_iadd hx hb dmX13_signature_134 ?_
        refine lv_istore_n (lv' := [(2, .int (t1 + t0)), (0, .ref (u 0)), (1, .int x1), (3, .int x3), (4, .int x4), (5, .int x5)]) hx hb dmX13_signature_135 rfl hl (by decide) rfl (fun ls hl => ?_)
        refine lv_iinc (v := (x3 + 1)) (lv' := [(3, .int (x3 + 1)), (2, .int (t1 + t0)), (0, .ref (u 0)), (1, .int x1), (4, .int x4), (5, .int x5)]) hx hb dmX13_signature_136 hl (k := 3) rfl rfl (by decide) rfl (fun ls hl => ?_)
        refine lv_goto (tgt := 46) hx hb dmX13_signature_139 (by decide) ?_
        exact ih_1 x1 (t1 + t0) (x3 + 1) 0 0 0 0 z H locs ls hM (lv_sub hl [2, 3, 1, 0] rfl) hq
  exact (key K).1 x1 0 0 0 0 0 0 z s.heap [] ls  hM (lv_sub hl [0, 1] rfl) hq
theorem dmX13_makeArcs_0 : decode cX13_makeArcs 0 = .ok (.aload_n 0, 1) := dw_at cX13_makeArcs_k0 (p := 0) rfl (by decide +kernel)
theorem dmX13_makeArcs_1 : decode cX13_makeArcs 1 = .ok (.iconst 0, 1) := dw_at cX13_makeArcs_k0 (p := 1) rfl (by decide +kernel)
theorem dmX13_makeArcs_2 : decode cX13_makeArcs 2 = .ok (.putfield 626, 3) := dw_at cX13_makeArcs_k0 (p := 2) rfl (by decide +kernel)
theorem dmX13_makeArcs_5 : decode cX13_makeArcs 5 = .ok (.iconst 0, 1) := dw_at cX13_makeArcs_k0 (p := 5) rfl (by decide +kernel)
theorem dmX13_makeArcs_6 : decode cX13_makeArcs 6 = .ok (.istore_n 2, 1) := dw_at cX13_makeArcs_k0 (p := 6) rfl (by decide +kernel)
theorem dmX13_makeArcs_7 : decode cX13_makeArcs 7 = .ok (.iload_n 2, 1) := dw_at cX13_makeArcs_k0 (p := 7) rfl (by decide +kernel)
theorem dmX13_makeArcs_8 : decode cX13_makeArcs 8 = .ok (.aload_n 1, 1) := dw_at cX13_makeArcs_k0 (p := 8) rfl (by decide +kernel)
theorem dmX13_makeArcs_9 : decode cX13_makeArcs 9 = .ok (.getfield 407, 3) := dw_at cX13_makeArcs_k0 (p := 9) rfl (by decide +kernel)
theorem dmX13_makeArcs_12 : decode cX13_makeArcs 12 = .ok (.if_icmp .ge 197, 3) := dw_at cX13_makeArcs_k0 (p := 12) rfl (by decide +kernel)
theorem dmX13_makeArcs_15 : decode cX13_makeArcs 15 = .ok (.iconst (-1), 1) := dw_at cX13_makeArcs_k0 (p := 15) rfl (by decide +kernel)
theorem dmX13_makeArcs_16 : decode cX13_makeArcs 16 = .ok (.istore_n 3, 1) := dw_at cX13_makeArcs_k0 (p := 16) rfl (by decide +kernel)
theorem dmX13_makeArcs_17 : decode cX13_makeArcs 17 = .ok (.aload_n 1, 1) := dw_at cX13_makeArcs_k0 (p := 17) rfl (by decide +kernel)
theorem dmX13_makeArcs_18 : decode cX13_makeArcs 18 = .ok (.getfield 452, 3) := dw_at cX13_makeArcs_k0 (p := 18) rfl (by decide +kernel)
theorem dmX13_makeArcs_21 : decode cX13_makeArcs 21 = .ok (.iload_n 2, 1) := dw_at cX13_makeArcs_k0 (p := 21) rfl (by decide +kernel)
theorem dmX13_makeArcs_22 : decode cX13_makeArcs 22 = .ok (.iconst 1, 1) := dw_at cX13_makeArcs_k0 (p := 22) rfl (by decide +kernel)
theorem dmX13_makeArcs_23 : decode cX13_makeArcs 23 = .ok (.iadd, 1) := dw_at cX13_makeArcs_k0 (p := 23) rfl (by decide +kernel)
theorem dmX13_makeArcs_24 : decode cX13_makeArcs 24 = .ok (.iaload, 1) := dw_at cX13_makeArcs_k1 (p := 0) rfl (by decide +kernel)
theorem dmX13_makeArcs_25 : decode cX13_makeArcs 25 = .ok (.iconst 1, 1) := dw_at cX13_makeArcs_k1 (p := 1) rfl (by decide +kernel)
theorem dmX13_makeArcs_26 : decode cX13_makeArcs 26 = .ok (.isub, 1) := dw_at cX13_makeArcs_k1 (p := 2) rfl (by decide +kernel)
theorem dmX13_makeArcs_27 : decode cX13_makeArcs 27 = .ok (.istore 4, 2) := dw_at cX13_makeArcs_k1 (p := 3) rfl (by decide +kernel)
theorem dmX13_makeArcs_29 : decode cX13_makeArcs 29 = .ok (.iload 4, 2) := dw_at cX13_makeArcs_k1 (p := 5) rfl (by decide +kernel)
theorem dmX13_makeArcs_31 : decode cX13_makeArcs 31 = .ok (.aload_n 1, 1) := dw_at cX13_makeArcs_k1 (p := 7) rfl (by decide +kernel)
theorem dmX13_makeArcs_32 : decode cX13_makeArcs 32 = .ok (.getfield 452, 3) := dw_at cX13_makeArcs_k1 (p := 8) rfl (by decide +kernel)
theorem dmX13_makeArcs_35 : decode cX13_makeArcs 35 = .ok (.iload_n 2, 1) := dw_at cX13_makeArcs_k1 (p := 11) rfl (by decide +kernel)
theorem dmX13_makeArcs_36 : decode cX13_makeArcs 36 = .ok (.iaload, 1) := dw_at cX13_makeArcs_k1 (p := 12) rfl (by decide +kernel)
theorem dmX13_makeArcs_37 : decode cX13_makeArcs 37 = .ok (.if_icmp .lt 27, 3) := dw_at cX13_makeArcs_k1 (p := 13) rfl (by decide +kernel)
theorem dmX13_makeArcs_40 : decode cX13_makeArcs 40 = .ok (.aload_n 1, 1) := dw_at cX13_makeArcs_k1 (p := 16) rfl (by decide +kernel)
theorem dmX13_makeArcs_41 : decode cX13_makeArcs 41 = .ok (.getfield 32, 3) := dw_at cX13_makeArcs_k1 (p := 17) rfl (by decide +kernel)
theorem dmX13_makeArcs_44 : decode cX13_makeArcs 44 = .ok (.iload 4, 2) := dw_at cX13_makeArcs_k1 (p := 20) rfl (by decide +kernel)
theorem dmX13_makeArcs_46 : decode cX13_makeArcs 46 = .ok (.iaload, 1) := dw_at cX13_makeArcs_k1 (p := 22) rfl (by decide +kernel)
theorem dmX13_makeArcs_47 : decode cX13_makeArcs 47 = .ok (.iconst 1, 1) := dw_at cX13_makeArcs_k1 (p := 23) rfl (by decide +kernel)
theorem dmX13_makeArcs_48 : decode cX13_makeArcs 48 = .ok (.if_icmp .ne 8, 3) := dw_at cX13_makeArcs_k2 (p := 0) rfl (by decide +kernel)
theorem dmX13_makeArcs_51 : decode cX13_makeArcs 51 = .ok (.iload 4, 2) := dw_at cX13_makeArcs_k2 (p := 3) rfl (by decide +kernel)
theorem dmX13_makeArcs_53 : decode cX13_makeArcs 53 = .ok (.goto 4, 3) := dw_at cX13_makeArcs_k2 (p := 5) rfl (by decide +kernel)
theorem dmX13_makeArcs_56 : decode cX13_makeArcs 56 = .ok (.iload_n 3, 1) := dw_at cX13_makeArcs_k2 (p := 8) rfl (by decide +kernel)
theorem dmX13_makeArcs_57 : decode cX13_makeArcs 57 = .ok (.istore_n 3, 1) := dw_at cX13_makeArcs_k2 (p := 9) rfl (by decide +kernel)
theorem dmX13_makeArcs_58 : decode cX13_makeArcs 58 = .ok (.iinc 4 (-1), 3) := dw_at cX13_makeArcs_k2 (p := 10) rfl (by decide +kernel)
theorem dmX13_makeArcs_61 : decode cX13_makeArcs 61 = .ok (.goto (-32), 3) := dw_at cX13_makeArcs_k2 (p := 13) rfl (by decide +kernel)
theorem dmX13_makeArcs_64 : decode cX13_makeArcs 64 = .ok (.iload_n 3, 1) := dw_at cX13_makeArcs_k2 (p := 16) rfl (by decide +kernel)
theorem dmX13_makeArcs_65 : decode cX13_makeArcs 65 = .ok (.iconst (-1), 1) := dw_at cX13_makeArcs_k2 (p := 17) rfl (by decide +kernel)
theorem dmX13_makeArcs_66 : decode cX13_makeArcs 66 = .ok (.if_icmp .ne 54, 3) := dw_at cX13_makeArcs_k2 (p := 18) rfl (by decide +kernel)
theorem dmX13_makeArcs_69 : decode cX13_makeArcs 69 = .ok (.aload_n 1, 1) := dw_at cX13_makeArcs_k2 (p := 21) rfl (by decide +kernel)
theorem dmX13_makeArcs_70 : decode cX13_makeArcs 70 = .ok (.getfield 452, 3) := dw_at cX13_makeArcs_k2 (p := 22) rfl (by decide +kernel)
theorem dmX13_makeArcs_73 : decode cX13_makeArcs 73 = .ok (.iload_n 2, 1) := dw_at cX13_makeArcs_k3 (p := 0) rfl (by decide +kernel)
theorem dmX13_makeArcs_74 : decode cX13_makeArcs 74 = .ok (.iaload, 1) := dw_at cX13_makeArcs_k3 (p := 1) rfl (by decide +kernel)
theorem dmX13_makeArcs_75 : decode cX13_makeArcs 75 = .ok (.istore 4, 2) := dw_at cX13_makeArcs_k3 (p := 2) rfl (by decide +kernel)
theorem dmX13_makeArcs_77 : decode cX13_makeArcs 77 = .ok (.iload 4, 2) := dw_at cX13_makeArcs_k3 (p := 4) rfl (by decide +kernel)
theorem dmX13_makeArcs_79 : decode cX13_makeArcs 79 = .ok (.aload_n 1, 1) := dw_at cX13_makeArcs_k3 (p := 6) rfl (by decide +kernel)
theorem dmX13_makeArcs_80 : decode cX13_makeArcs 80 = .ok (.getfield 452, 3) := dw_at cX13_makeArcs_k3 (p := 7) rfl (by decide +kernel)
theorem dmX13_makeArcs_83 : decode cX13_makeArcs 83 = .ok (.iload_n 2, 1) := dw_at cX13_makeArcs_k3 (p := 10) rfl (by decide +kernel)
theorem dmX13_makeArcs_84 : decode cX13_makeArcs 84 = .ok (.iconst 1, 1) := dw_at cX13_makeArcs_k3 (p := 11) rfl (by decide +kernel)
theorem dmX13_makeArcs_85 : decode cX13_makeArcs 85 = .ok (.iadd, 1) := dw_at cX13_makeArcs_k3 (p := 12) rfl (by decide +kernel)
theorem dmX13_makeArcs_86 : decode cX13_makeArcs 86 = .ok (.iaload, 1) := dw_at cX13_makeArcs_k3 (p := 13) rfl (by decide +kernel)
theorem dmX13_makeArcs_87 : decode cX13_makeArcs 87 = .ok (.if_icmp .ge 20, 3) := dw_at cX13_makeArcs_k3 (p := 14) rfl (by decide +kernel)
theorem dmX13_makeArcs_90 : decode cX13_makeArcs 90 = .ok (.aload_n 0, 1) := dw_at cX13_makeArcs_k3 (p := 17) rfl (by decide +kernel)
theorem dmX13_makeArcs_91 : decode cX13_makeArcs 91 = .ok (.getfield 232, 3) := dw_at cX13_makeArcs_k3 (p := 18) rfl (by decide +kernel)
theorem dmX13_makeArcs_94 : decode cX13_makeArcs 94 = .ok (.iload 4, 2) := dw_at cX13_makeArcs_k3 (p := 21) rfl (by decide +kernel)
theorem dmX13_makeArcs_96 : decode cX13_makeArcs 96 = .ok (.aload_n 0, 1) := dw_at cX13_makeArcs_k3 (p := 23) rfl (by decide +kernel)
theorem dmX13_makeArcs_97 : decode cX13_makeArcs 97 = .ok (.getfield 626, 3) := dw_at cX13_makeArcs_k4 (p := 0) rfl (by decide +kernel)
theorem dmX13_makeArcs_100 : decode cX13_makeArcs 100 = .ok (.iastore, 1) := dw_at cX13_makeArcs_k4 (p := 3) rfl (by decide +kernel)
theorem dmX13_makeArcs_101 : decode cX13_makeArcs 101 = .ok (.iinc 4 1, 3) := dw_at cX13_makeArcs_k4 (p := 4) rfl (by decide +kernel)
theorem dmX13_makeArcs_104 : decode cX13_makeArcs 104 = .ok (.goto (-27), 3) := dw_at cX13_makeArcs_k4 (p := 7) rfl (by decide +kernel)
theorem dmX13_makeArcs_107 : decode cX13_makeArcs 107 = .ok (.aload_n 0, 1) := dw_at cX13_makeArcs_k4 (p := 10) rfl (by decide +kernel)
theorem dmX13_makeArcs_108 : decode cX13_makeArcs 108 = .ok (.dup, 1) := dw_at cX13_makeArcs_k4 (p := 11) rfl (by decide +kernel)
theorem dmX13_makeArcs_109 : decode cX13_makeArcs 109 = .ok (.getfield 626, 3) := dw_at cX13_makeArcs_k4 (p := 12) rfl (by decide +kernel)
theorem dmX13_makeArcs_112 : decode cX13_makeArcs 112 = .ok (.iconst 1, 1) := dw_at cX13_makeArcs_k4 (p := 15) rfl (by decide +kernel)
theorem dmX13_makeArcs_113 : decode cX13_makeArcs 113 = .ok (.iadd, 1) := dw_at cX13_makeArcs_k4 (p := 16) rfl (by decide +kernel)
theorem dmX13_makeArcs_114 : decode cX13_makeArcs 114 = .ok (.putfield 626, 3) := dw_at cX13_makeArcs_k4 (p := 17) rfl (by decide +kernel)
theorem dmX13_makeArcs_117 : decode cX13_makeArcs 117 = .ok (.goto 86, 3) := dw_at cX13_makeArcs_k4 (p := 20) rfl (by decide +kernel)
theorem dmX13_makeArcs_120 : decode cX13_makeArcs 120 = .ok (.iload_n 3, 1) := dw_at cX13_makeArcs_k4 (p := 23) rfl (by decide +kernel)
theorem dmX13_makeArcs_121 : decode cX13_makeArcs 121 = .ok (.istore 4, 2) := dw_at cX13_makeArcs_k5 (p := 0) rfl (by decide +kernel)
theorem dmX13_makeArcs_123 : decode cX13_makeArcs 123 = .ok (.aload_n 0, 1) := dw_at cX13_makeArcs_k5 (p := 2) rfl (by decide +kernel)
theorem dmX13_makeArcs_124 : decode cX13_makeArcs 124 = .ok (.getfield 235, 3) := dw_at cX13_makeArcs_k5 (p := 3) rfl (by decide +kernel)
theorem dmX13_makeArcs_127 : decode cX13_makeArcs 127 = .ok (.iload 4, 2) := dw_at cX13_makeArcs_k5 (p := 6) rfl (by decide +kernel)
theorem dmX13_makeArcs_129 : decode cX13_makeArcs 129 = .ok (.aload_n 0, 1) := dw_at cX13_makeArcs_k5 (p := 8) rfl (by decide +kernel)
theorem dmX13_makeArcs_130 : decode cX13_makeArcs 130 = .ok (.getfield 626, 3) := dw_at cX13_makeArcs_k5 (p := 9) rfl (by decide +kernel)
theorem dmX13_makeArcs_133 : decode cX13_makeArcs 133 = .ok (.iastore, 1) := dw_at cX13_makeArcs_k5 (p := 12) rfl (by decide +kernel)
theorem dmX13_makeArcs_134 : decode cX13_makeArcs 134 = .ok (.aload_n 1, 1) := dw_at cX13_makeArcs_k5 (p := 13) rfl (by decide +kernel)
theorem dmX13_makeArcs_135 : decode cX13_makeArcs 135 = .ok (.getfield 38, 3) := dw_at cX13_makeArcs_k5 (p := 14) rfl (by decide +kernel)
theorem dmX13_makeArcs_138 : decode cX13_makeArcs 138 = .ok (.iload 4, 2) := dw_at cX13_makeArcs_k5 (p := 17) rfl (by decide +kernel)
theorem dmX13_makeArcs_140 : decode cX13_makeArcs 140 = .ok (.iaload, 1) := dw_at cX13_makeArcs_k5 (p := 19) rfl (by decide +kernel)
theorem dmX13_makeArcs_141 : decode cX13_makeArcs 141 = .ok (.istore 4, 2) := dw_at cX13_makeArcs_k5 (p := 20) rfl (by decide +kernel)
theorem dmX13_makeArcs_143 : decode cX13_makeArcs 143 = .ok (.aload_n 1, 1) := dw_at cX13_makeArcs_k5 (p := 22) rfl (by decide +kernel)
theorem dmX13_makeArcs_144 : decode cX13_makeArcs 144 = .ok (.getfield 32, 3) := dw_at cX13_makeArcs_k5 (p := 23) rfl (by decide +kernel)
theorem dmX13_makeArcs_147 : decode cX13_makeArcs 147 = .ok (.iload 4, 2) := dw_at cX13_makeArcs_k6 (p := 0) rfl (by decide +kernel)
theorem dmX13_makeArcs_149 : decode cX13_makeArcs 149 = .ok (.iaload, 1) := dw_at cX13_makeArcs_k6 (p := 2) rfl (by decide +kernel)
theorem dmX13_makeArcs_150 : decode cX13_makeArcs 150 = .ok (.ifCond .ne 26, 3) := dw_at cX13_makeArcs_k6 (p := 3) rfl (by decide +kernel)
theorem dmX13_makeArcs_153 : decode cX13_makeArcs 153 = .ok (.aload_n 0, 1) := dw_at cX13_makeArcs_k6 (p := 6) rfl (by decide +kernel)
theorem dmX13_makeArcs_154 : decode cX13_makeArcs 154 = .ok (.getfield 232, 3) := dw_at cX13_makeArcs_k6 (p := 7) rfl (by decide +kernel)
theorem dmX13_makeArcs_157 : decode cX13_makeArcs 157 = .ok (.iload 4, 2) := dw_at cX13_makeArcs_k6 (p := 10) rfl (by decide +kernel)
theorem dmX13_makeArcs_159 : decode cX13_makeArcs 159 = .ok (.aload_n 0, 1) := dw_at cX13_makeArcs_k6 (p := 12) rfl (by decide +kernel)
theorem dmX13_makeArcs_160 : decode cX13_makeArcs 160 = .ok (.getfield 626, 3) := dw_at cX13_makeArcs_k6 (p := 13) rfl (by decide +kernel)
theorem dmX13_makeArcs_163 : decode cX13_makeArcs 163 = .ok (.iastore, 1) := dw_at cX13_makeArcs_k6 (p := 16) rfl (by decide +kernel)
theorem dmX13_makeArcs_164 : decode cX13_makeArcs 164 = .ok (.aload_n 1, 1) := dw_at cX13_makeArcs_k6 (p := 17) rfl (by decide +kernel)
theorem dmX13_makeArcs_165 : decode cX13_makeArcs 165 = .ok (.getfield 38, 3) := dw_at cX13_makeArcs_k6 (p := 18) rfl (by decide +kernel)
theorem dmX13_makeArcs_168 : decode cX13_makeArcs 168 = .ok (.iload 4, 2) := dw_at cX13_makeArcs_k6 (p := 21) rfl (by decide +kernel)
theorem dmX13_makeArcs_170 : decode cX13_makeArcs 170 = .ok (.iaload, 1) := dw_at cX13_makeArcs_k6 (p := 23) rfl (by decide +kernel)
theorem dmX13_makeArcs_171 : decode cX13_makeArcs 171 = .ok (.istore 4, 2) := dw_at cX13_makeArcs_k7 (p := 0) rfl (by decide +kernel)
theorem dmX13_makeArcs_173 : decode cX13_makeArcs 173 = .ok (.goto (-30), 3) := dw_at cX13_makeArcs_k7 (p := 2) rfl (by decide +kernel)
theorem dmX13_makeArcs_176 : decode cX13_makeArcs 176 = .ok (.aload_n 0, 1) := dw_at cX13_makeArcs_k7 (p := 5) rfl (by decide +kernel)
theorem dmX13_makeArcs_177 : decode cX13_makeArcs 177 = .ok (.getfield 232, 3) := dw_at cX13_makeArcs_k7 (p := 6) rfl (by decide +kernel)
theorem dmX13_makeArcs_180 : decode cX13_makeArcs 180 = .ok (.iload 4, 2) := dw_at cX13_makeArcs_k7 (p := 9) rfl (by decide +kernel)
theorem dmX13_makeArcs_182 : decode cX13_makeArcs 182 = .ok (.aload_n 0, 1) := dw_at cX13_makeArcs_k7 (p := 11) rfl (by decide +kernel)
theorem dmX13_makeArcs_183 : decode cX13_makeArcs 183 = .ok (.getfield 626, 3) := dw_at cX13_makeArcs_k7 (p := 12) rfl (by decide +kernel)
theorem dmX13_makeArcs_186 : decode cX13_makeArcs 186 = .ok (.iastore, 1) := dw_at cX13_makeArcs_k7 (p := 15) rfl (by decide +kernel)
theorem dmX13_makeArcs_187 : decode cX13_makeArcs 187 = .ok (.aload_n 0, 1) := dw_at cX13_makeArcs_k7 (p := 16) rfl (by decide +kernel)
theorem dmX13_makeArcs_188 : decode cX13_makeArcs 188 = .ok (.dup, 1) := dw_at cX13_makeArcs_k7 (p := 17) rfl (by decide +kernel)
theorem dmX13_makeArcs_189 : decode cX13_makeArcs 189 = .ok (.getfield 626, 3) := dw_at cX13_makeArcs_k7 (p := 18) rfl (by decide +kernel)
theorem dmX13_makeArcs_192 : decode cX13_makeArcs 192 = .ok (.iconst 1, 1) := dw_at cX13_makeArcs_k7 (p := 21) rfl (by decide +kernel)
theorem dmX13_makeArcs_193 : decode cX13_makeArcs 193 = .ok (.iadd, 1) := dw_at cX13_makeArcs_k7 (p := 22) rfl (by decide +kernel)
theorem dmX13_makeArcs_194 : decode cX13_makeArcs 194 = .ok (.putfield 626, 3) := dw_at cX13_makeArcs_k7 (p := 23) rfl (by decide +kernel)
theorem dmX13_makeArcs_197 : decode cX13_makeArcs 197 = .ok (.iload 4, 2) := dw_at cX13_makeArcs_k8 (p := 0) rfl (by decide +kernel)
theorem dmX13_makeArcs_199 : decode cX13_makeArcs 199 = .ok (.iload_n 3, 1) := dw_at cX13_makeArcs_k8 (p := 2) rfl (by decide +kernel)
theorem dmX13_makeArcs_200 : decode cX13_makeArcs 200 = .ok (.if_icmp .ne (-77), 3) := dw_at cX13_makeArcs_k8 (p := 3) rfl (by decide +kernel)
theorem dmX13_makeArcs_203 : decode cX13_makeArcs 203 = .ok (.iinc 2 1, 3) := dw_at cX13_makeArcs_k8 (p := 6) rfl (by decide +kernel)
theorem dmX13_makeArcs_206 : decode cX13_makeArcs 206 = .ok (.goto (-199), 3) := dw_at cX13_makeArcs_k8 (p := 9) rfl (by decide +kernel)
theorem dmX13_makeArcs_209 : decode cX13_makeArcs 209 = .ok (.iconst 0, 1) := dw_at cX13_makeArcs_k8 (p := 12) rfl (by decide +kernel)
theorem dmX13_makeArcs_210 : decode cX13_makeArcs 210 = .ok (.istore_n 2, 1) := dw_at cX13_makeArcs_k8 (p := 13) rfl (by decide +kernel)
theorem dmX13_makeArcs_211 : decode cX13_makeArcs 211 = .ok (.iload_n 2, 1) := dw_at cX13_makeArcs_k8 (p := 14) rfl (by decide +kernel)
theorem dmX13_makeArcs_212 : decode cX13_makeArcs 212 = .ok (.aload_n 1, 1) := dw_at cX13_makeArcs_k8 (p := 15) rfl (by decide +kernel)
theorem dmX13_makeArcs_213 : decode cX13_makeArcs 213 = .ok (.getfield 44, 3) := dw_at cX13_makeArcs_k8 (p := 16) rfl (by decide +kernel)
theorem dmX13_makeArcs_216 : decode cX13_makeArcs 216 = .ok (.if_icmp .ge 64, 3) := dw_at cX13_makeArcs_k8 (p := 19) rfl (by decide +kernel)
theorem dmX13_makeArcs_219 : decode cX13_makeArcs 219 = .ok (.aload_n 1, 1) := dw_at cX13_makeArcs_k8 (p := 22) rfl (by decide +kernel)
theorem dmX13_makeArcs_220 : decode cX13_makeArcs 220 = .ok (.getfield 23, 3) := dw_at cX13_makeArcs_k8 (p := 23) rfl (by decide +kernel)
theorem dmX13_makeArcs_223 : decode cX13_makeArcs 223 = .ok (.iload_n 2, 1) := dw_at cX13_makeArcs_k9 (p := 0) rfl (by decide +kernel)
theorem dmX13_makeArcs_224 : decode cX13_makeArcs 224 = .ok (.iaload, 1) := dw_at cX13_makeArcs_k9 (p := 1) rfl (by decide +kernel)
theorem dmX13_makeArcs_225 : decode cX13_makeArcs 225 = .ok (.istore_n 3, 1) := dw_at cX13_makeArcs_k9 (p := 2) rfl (by decide +kernel)
theorem dmX13_makeArcs_226 : decode cX13_makeArcs 226 = .ok (.aload_n 1, 1) := dw_at cX13_makeArcs_k9 (p := 3) rfl (by decide +kernel)
theorem dmX13_makeArcs_227 : decode cX13_makeArcs 227 = .ok (.getfield 32, 3) := dw_at cX13_makeArcs_k9 (p := 4) rfl (by decide +kernel)
theorem dmX13_makeArcs_230 : decode cX13_makeArcs 230 = .ok (.iload_n 2, 1) := dw_at cX13_makeArcs_k9 (p := 7) rfl (by decide +kernel)
theorem dmX13_makeArcs_231 : decode cX13_makeArcs 231 = .ok (.iaload, 1) := dw_at cX13_makeArcs_k9 (p := 8) rfl (by decide +kernel)
theorem dmX13_makeArcs_232 : decode cX13_makeArcs 232 = .ok (.ifCond .ne 18, 3) := dw_at cX13_makeArcs_k9 (p := 9) rfl (by decide +kernel)
theorem dmX13_makeArcs_235 : decode cX13_makeArcs 235 = .ok (.aload_n 0, 1) := dw_at cX13_makeArcs_k9 (p := 12) rfl (by decide +kernel)
theorem dmX13_makeArcs_236 : decode cX13_makeArcs 236 = .ok (.getfield 238, 3) := dw_at cX13_makeArcs_k9 (p := 13) rfl (by decide +kernel)
theorem dmX13_makeArcs_239 : decode cX13_makeArcs 239 = .ok (.iload_n 3, 1) := dw_at cX13_makeArcs_k9 (p := 16) rfl (by decide +kernel)
theorem dmX13_makeArcs_240 : decode cX13_makeArcs 240 = .ok (.aload_n 0, 1) := dw_at cX13_makeArcs_k9 (p := 17) rfl (by decide +kernel)
theorem dmX13_makeArcs_241 : decode cX13_makeArcs 241 = .ok (.getfield 232, 3) := dw_at cX13_makeArcs_k9 (p := 18) rfl (by decide +kernel)
theorem dmX13_makeArcs_244 : decode cX13_makeArcs 244 = .ok (.iload_n 2, 1) := dw_at cX13_makeArcs_k9 (p := 21) rfl (by decide +kernel)
theorem dmX13_makeArcs_245 : decode cX13_makeArcs 245 = .ok (.iaload, 1) := dw_at cX13_makeArcs_k9 (p := 22) rfl (by decide +kernel)
theorem dmX13_makeArcs_246 : decode cX13_makeArcs 246 = .ok (.iastore, 1) := dw_at cX13_makeArcs_k9 (p := 23) rfl (by decide +kernel)
theorem dmX13_makeArcs_247 : decode cX13_makeArcs 247 = .ok (.goto 27, 3) := dw_at cX13_makeArcs_k10 (p := 0) rfl (by decide +kernel)
theorem dmX13_makeArcs_250 : decode cX13_makeArcs 250 = .ok (.aload_n 0, 1) := dw_at cX13_makeArcs_k10 (p := 3) rfl (by decide +kernel)
theorem dmX13_makeArcs_251 : decode cX13_makeArcs 251 = .ok (.getfield 241, 3) := dw_at cX13_makeArcs_k10 (p := 4) rfl (by decide +kernel)
theorem dmX13_makeArcs_254 : decode cX13_makeArcs 254 = .ok (.iload_n 3, 1) := dw_at cX13_makeArcs_k10 (p := 7) rfl (by decide +kernel)
theorem dmX13_makeArcs_255 : decode cX13_makeArcs 255 = .ok (.aload_n 0, 1) := dw_at cX13_makeArcs_k10 (p := 8) rfl (by decide +kernel)
theorem dmX13_makeArcs_256 : decode cX13_makeArcs 256 = .ok (.getfield 232, 3) := dw_at cX13_makeArcs_k10 (p := 9) rfl (by decide +kernel)
theorem dmX13_makeArcs_259 : decode cX13_makeArcs 259 = .ok (.iload_n 2, 1) := dw_at cX13_makeArcs_k10 (p := 12) rfl (by decide +kernel)
theorem dmX13_makeArcs_260 : decode cX13_makeArcs 260 = .ok (.iaload, 1) := dw_at cX13_makeArcs_k10 (p := 13) rfl (by decide +kernel)
theorem dmX13_makeArcs_261 : decode cX13_makeArcs 261 = .ok (.iastore, 1) := dw_at cX13_makeArcs_k10 (p := 14) rfl (by decide +kernel)
theorem dmX13_makeArcs_262 : decode cX13_makeArcs 262 = .ok (.aload_n 0, 1) := dw_at cX13_makeArcs_k10 (p := 15) rfl (by decide +kernel)
theorem dmX13_makeArcs_263 : decode cX13_makeArcs 263 = .ok (.getfield 244, 3) := dw_at cX13_makeArcs_k10 (p := 16) rfl (by decide +kernel)
theorem dmX13_makeArcs_266 : decode cX13_makeArcs 266 = .ok (.iload_n 3, 1) := dw_at cX13_makeArcs_k10 (p := 19) rfl (by decide +kernel)
theorem dmX13_makeArcs_267 : decode cX13_makeArcs 267 = .ok (.aload_n 0, 1) := dw_at cX13_makeArcs_k10 (p := 20) rfl (by decide +kernel)
theorem dmX13_makeArcs_268 : decode cX13_makeArcs 268 = .ok (.getfield 235, 3) := dw_at cX13_makeArcs_k10 (p := 21) rfl (by decide +kernel)
theorem dmX13_makeArcs_271 : decode cX13_makeArcs 271 = .ok (.iload_n 2, 1) := dw_at cX13_makeArcs_k11 (p := 0) rfl (by decide +kernel)
theorem dmX13_makeArcs_272 : decode cX13_makeArcs 272 = .ok (.iaload, 1) := dw_at cX13_makeArcs_k11 (p := 1) rfl (by decide +kernel)
theorem dmX13_makeArcs_273 : decode cX13_makeArcs 273 = .ok (.iastore, 1) := dw_at cX13_makeArcs_k11 (p := 2) rfl (by decide +kernel)
theorem dmX13_makeArcs_274 : decode cX13_makeArcs 274 = .ok (.iinc 2 1, 3) := dw_at cX13_makeArcs_k11 (p := 3) rfl (by decide +kernel)
theorem dmX13_makeArcs_277 : decode cX13_makeArcs 277 = .ok (.goto (-66), 3) := dw_at cX13_makeArcs_k11 (p := 6) rfl (by decide +kernel)
theorem dmX13_makeArcs_280 : decode cX13_makeArcs 280 = .ok (.return_, 1) := dw_at cX13_makeArcs_k11 (p := 9) rfl (by decide +kernel)
def qm_X13_makeArcs_0 (K : Nat) (go : Nat → Int32 → Int32 → Int32 → Nat → Int32 → ow_MS → Option ow_MS) (x2 : Int32) (x3 : Int32) (x4 : Int32) (r1 : Nat) (t0 : Int32) (z : ow_MS) : Option ow_MS :=
 wrF z 58 0 fun z1 => go 1 0 0 0 r1 0 z1
def qm_X13_makeArcs_1 (K : Nat) (go : Nat → Int32 → Int32 → Int32 → Nat → Int32 → ow_MS → Option ow_MS) (x2 : Int32) (x3 : Int32) (x4 : Int32) (r1 : Nat) (t0 : Int32) (z : ow_MS) : Option ow_MS :=
 rdF z (r1 + 2) fun v2 => (if v2 ≤ x2 then go 8 0 0 0 r1 0 z
 else rdI mX z (r1 + 3) (x2 + 1) fun v3 => go 2 x2 (-1) (v3 - 1) r1 0 z)
def qm_X13_makeArcs_2 (K : Nat) (go : Nat → Int32 → Int32 → Int32 → Nat → Int32 → ow_MS → Option ow_MS) (x2 : Int32) (x3 : Int32) (x4 : Int32) (r1 : Nat) (t0 : Int32) (z : ow_MS) : Option ow_MS :=
 rdI mX z (r1 + 3) x2 fun v4 => (if x4 < v4 then (if x3 = (-1) then rdI mX z (r1 + 3) x2 fun v5 => go 4 x2 x3 v5 r1 0 z
 else go 5 x2 x3 x3 r1 0 z)
 else rdI mX z (r1 + 5) x4 fun v6 => (if v6 = 1 then go 3 x2 x3 x4 r1 x4 z
 else go 3 x2 x3 x4 r1 x3 z))
def qm_X13_makeArcs_3 (K : Nat) (go : Nat → Int32 → Int32 → Int32 → Nat → Int32 → ow_MS → Option ow_MS) (x2 : Int32) (x3 : Int32) (x4 : Int32) (r1 : Nat) (t0 : Int32) (z : ow_MS) : Option ow_MS :=
 go 2 x2 t0 (x4 + (-1)) r1 0 z
def qm_X13_makeArcs_4 (K : Nat) (go : Nat → Int32 → Int32 → Int32 → Nat → Int32 → ow_MS → Option ow_MS) (x2 : Int32) (x3 : Int32) (x4 : Int32) (r1 : Nat) (t0 : Int32) (z : ow_MS) : Option ow_MS :=
 rdI mX z (r1 + 3) (x2 + 1) fun v7 => (if v7 ≤ x4 then rdF z 58 fun v8 => wrF z 58 (v8 + 1) fun z9 => go 7 x2 x3 x4 r1 0 z9
 else rdF z 58 fun v10 => wrI mX z 59 x4 v10 fun z11 => go 4 x2 x3 (x4 + 1) r1 0 z11)
def qm_X13_makeArcs_5 (K : Nat) (go : Nat → Int32 → Int32 → Int32 → Nat → Int32 → ow_MS → Option ow_MS) (x2 : Int32) (x3 : Int32) (x4 : Int32) (r1 : Nat) (t0 : Int32) (z : ow_MS) : Option ow_MS :=
 rdF z 58 fun v12 => wrI mX z 60 x4 v12 fun z13 => rdI mX z13 (r1 + 9) x4 fun v14 => go 6 x2 x3 v14 r1 0 z13
def qm_X13_makeArcs_6 (K : Nat) (go : Nat → Int32 → Int32 → Int32 → Nat → Int32 → ow_MS → Option ow_MS) (x2 : Int32) (x3 : Int32) (x4 : Int32) (r1 : Nat) (t0 : Int32) (z : ow_MS) : Option ow_MS :=
 rdI mX z (r1 + 5) x4 fun v15 => (if v15 = 0 then rdF z 58 fun v20 => wrI mX z 59 x4 v20 fun z21 => rdI mX z21 (r1 + 9) x4 fun v22 => go 6 x2 x3 v22 r1 0 z21
 else rdF z 58 fun v16 => wrI mX z 59 x4 v16 fun z17 => rdF z17 58 fun v18 => wrF z17 58 (v18 + 1) fun z19 => (if x4 = x3 then go 7 x2 x3 x4 r1 0 z19
 else go 5 x2 x3 x4 r1 0 z19))
def qm_X13_makeArcs_7 (K : Nat) (go : Nat → Int32 → Int32 → Int32 → Nat → Int32 → ow_MS → Option ow_MS) (x2 : Int32) (x3 : Int32) (x4 : Int32) (r1 : Nat) (t0 : Int32) (z : ow_MS) : Option ow_MS :=
 go 1 (x2 + 1) 0 0 r1 0 z
def qm_X13_makeArcs_8 (K : Nat) (go : Nat → Int32 → Int32 → Int32 → Nat → Int32 → ow_MS → Option ow_MS) (x2 : Int32) (x3 : Int32) (x4 : Int32) (r1 : Nat) (t0 : Int32) (z : ow_MS) : Option ow_MS :=
 rdF z (r1 + 1) fun v23 => (if v23 ≤ x2 then some z
 else rdI mX z (r1 + 4) x2 fun v24 => rdI mX z (r1 + 5) x2 fun v25 => (if v25 = 0 then rdI mX z 59 x2 fun v30 => wrI mX z 61 v24 v30 fun z31 => go 9 x2 v24 0 r1 0 z31
 else rdI mX z 59 x2 fun v26 => wrI mX z 62 v24 v26 fun z27 => rdI mX z27 60 x2 fun v28 => wrI mX z27 63 v24 v28 fun z29 => go 9 x2 v24 0 r1 0 z29))
def qm_X13_makeArcs_9 (K : Nat) (go : Nat → Int32 → Int32 → Int32 → Nat → Int32 → ow_MS → Option ow_MS) (x2 : Int32) (x3 : Int32) (x4 : Int32) (r1 : Nat) (t0 : Int32) (z : ow_MS) : Option ow_MS :=
 go 8 (x2 + 1) 0 0 r1 0 z
def qb_X13_makeArcs (K : Nat) (go : Nat → Int32 → Int32 → Int32 → Nat → Int32 → ow_MS → Option ow_MS) (L : Nat) (x2 : Int32) (x3 : Int32) (x4 : Int32) (r1 : Nat) (t0 : Int32) (z : ow_MS) : Option ow_MS := match L with
  | 0 => qm_X13_makeArcs_0 K go x2 x3 x4 r1 t0 z
  | 1 => qm_X13_makeArcs_1 K go x2 x3 x4 r1 t0 z
  | 2 => qm_X13_makeArcs_2 K go x2 x3 x4 r1 t0 z
  | 3 => qm_X13_makeArcs_3 K go x2 x3 x4 r1 t0 z
  | 4 => qm_X13_makeArcs_4 K go x2 x3 x4 r1 t0 z
  | 5 => qm_X13_makeArcs_5 K go x2 x3 x4 r1 t0 z
  | 6 => qm_X13_makeArcs_6 K go x2 x3 x4 r1 t0 z
  | 7 => qm_X13_makeArcs_7 K go x2 x3 x4 r1 t0 z
  | 8 => qm_X13_makeArcs_8 K go x2 x3 x4 r1 t0 z
  | 9 => qm_X13_makeArcs_9 K go x2 x3 x4 r1 t0 z
  | _ => none
def q_X13_makeArcs (K : Nat) : Nat → Nat → Int32 → Int32 → Int32 → Nat → Int32 → ow_MS → Option ow_MS
  | 0 => fun _ _ _ _ _ _ _ => none
  | k + 1 => qb_X13_makeArcs K (q_X13_makeArcs K k)
def qe_X13_makeArcs (K : Nat) (r1 : Nat) (z : ow_MS) : Option ow_MS := q_X13_makeArcs K K 0 0 0 0 r1 0 z
abbrev wm_X13_makeArcs : List Cond := .code yX13_makeArcs cX13_makeArcs 5 none :: wM
theorem cd_X13_makeArcs : yX13_makeArcs.cls = RX13 ∧ yX13_makeArcs.cls ≠ "java/lang/invoke/MethodHandle" ∧ yX13_makeArcs.cls ≠ "java/lang/invoke/VarHandle" ∧ (parseMethodDescriptor yX13_makeArcs.desc).map (fun d => d.parameters.length) = some 1 := by decide +kernel
set_option maxHeartbeats 4000000 in
set_option maxRecDepth 100000 in
theorem km_X13_makeArcs (l : Launch) (D : va_G) (q : ow_Q5) (u : Nat → Nat) (hU : tw_inj mX u) (K : Nat) (r1 : Nat) (hr1 : mw_net r1) (z z1 : ow_MS) (hq : qe_X13_makeArcs K r1 z = some z1) : Met l yX13_makeArcs wm_X13_makeArcs ({ frames := 0, cells := 0, slots := 0, locals := 0 } : Room) (va_Pc [.ref (u 0), .ref (u r1)] (mw_pre D q u z)) (va_Qv (fun (_ : Unit) => True) (fun _ t => va_P D vwCl (tw mX q u z1) t.heap) (tw_A mX u)) 0 0 (tw_A mX u) := by
  refine Met.ofW (cc := cX13_makeArcs) (maxL := 5) (ret := none) (by decide) rfl ?_
  intro p e s m args below meth c s₁ B hml hv
  obtain ⟨rfl, hP, hK, hN⟩ := hv
  have hx := B.exec
  have hb := B.bytes
  have hr := B.returns
  have hts := atoms_spec (ws := wm_X13_makeArcs) B.pre
  have hT : ∀ w ∈ wM, w.before ([.ref (u 0), .ref (u r1)] : List Value).toArray s = true := fun w h => hts w (List.mem_cons_of_mem _ h)
  have hown : s.vm.findClass RX13 = some m.cls := findClass_of_methodNamed B.named
  have hlocks := B.notSynchronized
  have hM : tw_M D vwCl mX q s.heap u z s.heap [] := ⟨hP, va_S.rf⟩
  have hl := lv_entry ([.ref (u 0), .ref (u r1)]) (n := 5) (Nat.le_of_ble_eq_true rfl)
  rw [lg_entry_eq]
  generalize (lg_sl ([.ref (u 0), .ref (u r1)]) ++ List.replicate (5 - (lg_sl ([.ref (u 0), .ref (u r1)])).length) Slot.unset).toArray = ls at hl ⊢
  have hl : lv_has ls 5 [(0, .ref (u 0)), (1, .ref (u r1))] := hl
  refine ow_named (fun QQ hQQ => ?_)
  generalize ([.ref (u 0), .ref (u r1)] : List Value).toArray = args at hts hT hQQ ⊢
  have key : ∀ k : Nat, (∀ (x2 : Int32) (x3 : Int32) (x4 : Int32) (r1 : Nat) (t0 : Int32) (z : ow_MS) (H : Heap) (locs : List Loc) (ls : Array Slot), mw_net r1 → tw_M D vwCl mX q s.heap u z H locs → lv_has ls 5 [(0, .ref (u 0)), (1, .ref (u r1))] → q_X13_makeArcs K k 0 x2 x3 x4 r1 t0 z = some z1 → W p l e ({ frames := 0, cells := 0, slots := 0, locals := 0 } : Room) s m args below meth c H locs 0 0 QQ (F0 m 0 ls [])) ∧ (∀ (x2 : Int32) (x3 : Int32) (x4 : Int32) (r1 : Nat) (t0 : Int32) (z : ow_MS) (H : Heap) (locs : List Loc) (ls : Array Slot), mw_net r1 → tw_M D vwCl mX q s.heap u z H locs → lv_has ls 5 [(0, .ref (u 0)), (1, .ref (u r1)), (2, .int x2)] → q_X13_makeArcs K k 1 x2 x3 x4 r1 t0 z = some z1 → W p l e ({ frames := 0, cells := 0, slots := 0, locals := 0 } : Room) s m args below meth c H locs 0 0 QQ (F0 m 7 ls [])) ∧ (∀ (x2 : Int32) (x3 : Int32) (x4 : Int32) (r1 : Nat) (t0 : Int32) (z : ow_MS) (H : Heap) (locs : List Loc) (ls : Array Slot), mw_net r1 → tw_M D vwCl mX q s.heap u z H locs → lv_has ls 5 [(0, .ref (u 0)), (1, .ref (u r1)), (2, .int x2), (3, .int x3), (4, .int x4)] → q_X13_makeArcs K k 2 x2 x3 x4 r1 t0 z = some z1 → W p l e ({ frames := 0, cells := 0, slots := 0, locals := 0 } : Room) s m args below meth c H locs 0 0 QQ (F0 m 29 ls [])) ∧ (∀ (x2 : Int32) (x3 : Int32) (x4 : Int32) (r1 : Nat) (t0 : Int32) (z : ow_MS) (H : Heap) (locs : List Loc) (ls : Array Slot), mw_net r1 → tw_M D vwCl mX q s.heap u z H locs → lv_has ls 5 [(0, .ref (u 0)), (1, .ref (u r1)), (2, .int x2), (3, .int x3), (4, .int x4)] → q_X13_makeArcs K k 3 x2 x3 x4 r1 t0 z = some z1 → W p l e ({ frames := 0, cells := 0, slots := 0, locals := 0 } : Room) s m args below meth c H locs 0 0 QQ (F0 m 57 ls [.int t0])) ∧ (∀ (x2 : Int32) (x3 : Int32) (x4 : Int32) (r1 : Nat) (t0 : Int32) (z : ow_MS) (H : Heap) (locs : List Loc) (ls : Array Slot), mw_net r1 → tw_M D vwCl mX q s.heap u z H locs → lv_has ls 5 [(0, .ref (u 0)), (1, .ref (u r1)), (2, .int x2), (3, .int x3), (4, .int x4)] → q_X13_makeArcs K k 4 x2 x3 x4 r1 t0 z = some z1 → W p l e ({ frames := 0, cells := 0, slots := 0, locals := 0 } : Room) s m args below meth c H locs 0 0 QQ (F0 m 77 ls [])) ∧ (∀ (x2 : Int32) (x3 : Int32) (x4 : Int32) (r1 : Nat) (t0 : Int32) (z : ow_MS) (H : Heap) (locs : List Loc) (ls : Array Slot), mw_net r1 → tw_M D vwCl mX q s.heap u z H locs → lv_has ls 5 [(0, .ref (u 0)), (1, .ref (u r1)), (2, .int x2), (3, .int x3), (4, .int x4)] → q_X13_makeArcs K k 5 x2 x3 x4 r1 t0 z = some z1 → W p l e ({ frames := 0, cells := 0, slots := 0, locals := 0 } : Room) s m args below meth c H locs 0 0 QQ (F0 m 123 ls [])) ∧ (∀ (x2 : Int32) (x3 : Int32) (x4 : Int32) (r1 : Nat) (t0 : Int32) (z : ow_MS) (H : Heap) (locs : List Loc) (ls : Array Slot), mw_net r1 → tw_M D vwCl mX q s.heap u z H locs → lv_has ls 5 [(0, .ref (u 0)), (1, .ref (u r1)), (2, .int x2), (3, .int x3), (4, .int x4)] → q_X13_makeArcs K k 6 x2 x3 x4 r1 t0 z = some z1 → W p l e ({ frames := 0, cells := 0, slots := 0, locals := 0 } : Room) s m args below meth c H locs 0 0 QQ (F0 m 143 ls [])) ∧ (∀ (x2 : Int32) (x3 : Int32) (x4 : Int32) (r1 : Nat) (t0 : Int32) (z : ow_MS) (H : Heap) (locs : List Loc) (ls : Array Slot), mw_net r1 → tw_M D vwCl mX q s.heap u z H locs → lv_has ls 5 [(0, .ref (u 0)), (1, .ref (u r1)), (2, .int x2), (3, .int x3), (4, .int x4)] → q_X13_makeArcs K k 7 x2 x3 x4 r1 t0 z = some z1 → W p l e ({ frames := 0, cells := 0, slots := 0, locals := 0 } : Room) s m args below meth c H locs 0 0 QQ (F0 m 203 ls [])) ∧ (∀ (x2 : Int32) (x3 : Int32) (x4 : Int32) (r1 : Nat) (t0 : Int32) (z : ow_MS) (H : Heap) (locs : List Loc) (ls : Array Slot), mw_net r1 → tw_M D vwCl mX q s.heap u z H locs → lv_has ls 5 [(0, .ref (u 0)), (1, .ref (u r1)), (2, .int x2)] → q_X13_makeArcs K k 8 x2 x3 x4 r1 t0 z = some z1 → W p l e ({ frames := 0, cells := 0, slots := 0, locals := 0 } : Room) s m args below meth c H locs 0 0 QQ (F0 m 211 ls [])) ∧ (∀ (x2 : Int32) (x3 : Int32) (x4 : Int32) (r1 : Nat) (t0 : Int32) (z : ow_MS) (H : Heap) (locs : List Loc) (ls : Array Slot), mw_net r1 → tw_M D vwCl mX q s.heap u z H locs → lv_has ls 5 [(0, .ref (u 0)), (1, .ref (u r1)), (2, .int x2), (3, .int x3)] → q_X13_makeArcs K k 9 x2 x3 x4 r1 t0 z = some z1 → W p l e ({ frames := 0, cells := 0, slots := 0, locals := 0 } : Room) s m args below meth c H locs 0 0 QQ (F0 m 274 ls [])) := by
    intro k
    induction k with
    | zero => exact ⟨fun _ _ _ _ _ _ _ _ _ _ _ _ hq => tw_no hq, fun _ _ _ _ _ _ _ _ _ _ _ _ hq => tw_no hq, fun _ _ _ _ _ _ _ _ _ _ _ _ hq => tw_no hq, fun _ _ _ _ _ _ _ _ _ _ _ _ hq => tw_no hq, fun _ _ _ _ _ _ _ _ _ _ _ _ hq => tw_no hq, fun _ _ _ _ _ _ _ _ _ _ _ _ hq => tw_no hq, fun _ _ _ _ _ _ _ _ _ _ _ _ hq => tw_no hq, fun _ _ _ _ _ _ _ _ _ _ _ _ hq => tw_no hq, fun _ _ _ _ _ _ _ _ _ _ _ _ hq => tw_no hq, fun _ _ _ _ _ _ _ _ _ _ _ _ hq => tw_no hq⟩
    | succ k ih =>
      obtain ⟨ih_0, ih_1, ih_2, ih_3, ih_4, ih_5, ih_6, ih_7, ih_8, ih_9⟩ := ih
      refine ⟨?_, ?_, ?_, ?_, ?_, ?_, ?_, ?_, ?_, ?_⟩
      · intro x2 x3 x4 r1 t0 z H locs ls hr1 hM hl hq
        have hq : qm_X13_makeArcs_0 K (q_X13_makeArcs K k) x2 x3 x4 r1 t0 z = some z1 := hq
        unfold qm_X13_makeArcs_0 at hq
        refine lv_aload_n hx hb dmX13_makeArcs_0 rfl (lv_at hl 0 rfl) ?_
        refine lv_iconst (v := 0) hx hb dmX13_makeArcs_1 (by decide) ?_
        refine mp13_626 hx hb hT hown hK hM hU hq dmX13_makeArcs_2 (fun z1 H locs hM hq => ?_)
        refine lv_iconst (v := 0) hx hb dmX13_makeArcs_5 (by decide) ?_
        refine lv_istore_n (lv' := [(2, .int 0), (0, .ref (u 0)), (1, .ref (u r1))]) hx hb dmX13_makeArcs_6 rfl hl (by decide) rfl (fun ls hl => ?_)
        exact ih_1 0 0 0 r1 0 z1 H locs ls hr1 hM (lv_sub hl [1, 2, 0] rfl) hq
      · intro x2 x3 x4 r1 t0 z H locs ls hr1 hM hl hq
        have hq : qm_X13_makeArcs_1 K (q_X13_makeArcs K k) x2 x3 x4 r1 t0 z = some z1 := hq
        unfold qm_X13_makeArcs_1 at hq
        refine lv_iload_n hx hb dmX13_makeArcs_7 rfl (lv_at hl 2 rfl) ?_
        refine lv_aload_n hx hb dmX13_makeArcs_8 rfl (lv_at hl 1 rfl) ?_
        refine mg13_407 hx hb hT hown hK hM hN hr1 hq dmX13_makeArcs_9 (fun v2 hq => ?_)
        refine lv_icmp_ge (tgt := 209) hx hb dmX13_makeArcs_12 (by decide) (fun hc => ?_) (fun hc => ?_)
        · have hq := tw_it hq hc
          refine lv_iconst (v := 0) hx hb dmX13_makeArcs_209 (by decide) ?_
          refine lv_istore_n (lv' := [(2, .int 0), (0, .ref (u 0)), (1, .ref (u r1))]) hx hb dmX13_makeArcs_210 rfl hl (by decide) rfl (fun ls hl => ?_)
          exact ih_8 0 0 0 r1 0 z H locs ls hr1 hM (lv_sub hl [1, 2, 0] rfl) hq
        · have hq := tw_if hq hc
          refine lv_iconst (v := (-1)) hx hb dmX13_makeArcs_15 (by decide) ?_
          refine lv_istore_n (lv' := [(3, .int (-1)), (0, .ref (u 0)), (1, .ref (u r1)), (2, .int x2)]) hx hb dmX13_makeArcs_16 rfl hl (by decide) rfl (fun ls hl => ?_)
          refine lv_aload_n hx hb dmX13_makeArcs_17 rfl (lv_at hl 2 rfl) ?_
          refine mg13_452 hx hb hT hown hK hM hN hr1 dmX13_makeArcs_18 ?_
          refine lv_iload_n hx hb dmX13_makeArcs_21 rfl (lv_at hl 3 rfl) ?_
          refine lv_iconst (v := 1) hx hb dmX13_makeArcs_22 (by decide) ?_
          refine lv_iadd hx hb dmX13_makeArcs_23 ?_
          refine tw_iald mX_ok hx hb hK hM (mrn_3 hr1) hq dmX13_makeArcs_24 (fun v3 hq => ?_)
          refine lv_iconst (v := 1) hx hb dmX13_makeArcs_25 (by decide) ?_
          refine lv_isub hx hb dmX13_makeArcs_26 ?_
          refine lv_istore (lv' := [(4, .int (v3 - 1)), (3, .int (-1)), (0, .ref (u 0)), (1, .ref (u r1)), (2, .int x2)]) hx hb dmX13_makeArcs_27 hl (by decide) rfl (fun ls hl => ?_)
          exact ih_2 x2 (-1) (v3 - 1) r1 0 z H locs ls hr1 hM (lv_sub hl [2, 3, 4, 1, 0] rfl) hq
      · intro x2 x3 x4 r1 t0 z H locs ls hr1 hM hl hq
        have hq : qm_X13_makeArcs_2 K (q_X13_makeArcs K k) x2 x3 x4 r1 t0 z = some z1 := hq
        unfold qm_X13_makeArcs_2 at hq
        refine lv_iload hx hb dmX13_makeArcs_29 (lv_at hl 4 rfl) ?_
        refine lv_aload_n hx hb dmX13_makeArcs_31 rfl (lv_at hl 1 rfl) ?_
        refine mg13_452 hx hb hT hown hK hM hN hr1 dmX13_makeArcs_32 ?_
        refine lv_iload_n hx hb dmX13_makeArcs_35 rfl (lv_at hl 2 rfl) ?_
        refine tw_iald mX_ok hx hb hK hM (mrn_3 hr1) hq dmX13_makeArcs_36 (fun v4 hq => ?_)
        refine lv_icmp_lt (tgt := 64) hx hb dmX13_makeArcs_37 (by decide) (fun hc => ?_) (fun hc => ?_)
        · have hq := tw_it hq hc
          refine lv_iload_n hx hb dmX13_makeArcs_64 rfl (lv_at hl 3 rfl) ?_
          refine lv_iconst (v := (-1)) hx hb dmX13_makeArcs_65 (by decide) ?_
          refine lv_icmp_ne (tgt := 120) hx hb dmX13_makeArcs_66 (by decide) (fun hc => ?_) (fun hc => ?_)
          · have hq := tw_if hq hc
            refine lv_iload_n hx hb dmX13_makeArcs_120 rfl (lv_at hl 3 rfl) ?_
            refine lv_istore (lv' := [(4, .int x3), (0, .ref (u 0)), (1, .ref (u r1)), (2, .int x2), (3, .int x3)]) hx hb dmX13_makeArcs_121 hl (by decide) rfl (fun ls hl => ?_)
            exact ih_5 x2 x3 x3 r1 0 z H locs ls hr1 hM (lv_sub hl [1, 2, 3, 4, 0] rfl) hq
          · have hq := tw_it hq hc
            refine lv_aload_n hx hb dmX13_makeArcs_69 rfl (lv_at hl 1 rfl) ?_
            refine mg13_452 hx hb hT hown hK hM hN hr1 dmX13_makeArcs_70 ?_
            refine lv_iload_n hx hb dmX13_makeArcs_73 rfl (lv_at hl 2 rfl) ?_
            refine tw_iald mX_ok hx hb hK hM (mrn_3 hr1) hq dmX13_makeArcs_74 (fun v5 hq => ?_)
            refine lv_istore (lv' := [(4, .int v5), (0, .ref (u 0)), (1, .ref (u r1)), (2, .int x2), (3, .int x3)]) hx hb dmX13_makeArcs_75 hl (by decide) rfl (fun ls hl => ?_)
            exact ih_4 x2 x3 v5 r1 0 z H locs ls hr1 hM (lv_sub hl [1, 2, 3, 4, 0] rfl) hq
        · have hq := tw_if hq hc
          refine lv_aload_n hx hb dmX13_makeArcs_40 rfl (lv_at hl 1 rfl) ?_
          refine mg13_32 hx hb hT hown hK hM hN hr1 dmX13_makeArcs_41 ?_
          refine lv_iload hx hb dmX13_makeArcs_44 (lv_at hl 4 rfl) ?_
          refine tw_iald mX_ok hx hb hK hM (mrn_5 hr1) hq dmX13_makeArcs_46 (fun v6 hq => ?_)
          refine lv_iconst (v := 1) hx hb dmX13_makeArcs_47 (by decide) ?_
          refine lv_icmp_ne (tgt := 56) hx hb dmX13_makeArcs_48 (by decide) (fun hc => ?_) (fun hc => ?_)
          · have hq := tw_if hq hc
            refine lv_iload_n hx hb dmX13_makeArcs_56 rfl (lv_at hl 3 rfl) ?_
            exact ih_3 x2 x3 x4 r1 x3 z H locs ls hr1 hM (lv_sub hl [0, 1, 2, 3, 4] rfl) hq
          · have hq := tw_it hq hc
            refine lv_iload hx hb dmX13_makeArcs_51 (lv_at hl 4 rfl) ?_
            refine lv_goto (tgt := 57) hx hb dmX13_makeArcs_53 (by decide) ?_
            exact ih_3 x2 x3 x4 r1 x4 z H locs ls hr1 hM (lv_sub hl [0, 1, 2, 3, 4] rfl) hq
      · intro x2 x3 x4 r1 t0 z H locs ls hr1 hM hl hq
        have hq : qm_X13_makeArcs_3 K (q_X13_makeArcs K k) x2 x3 x4 r1 t0 z = some z1 := hq
        unfold qm_X13_makeArcs_3 at hq
        refine lv_istore_n (lv' := [(3, .int t0), (0, .ref (u 0)), (1, .ref (u r1)), (2, .int x2), (4, .int x4)]) hx hb dmX13_makeArcs_57 rfl hl (by decide) rfl (fun ls hl => ?_)
        refine lv_iinc (v := (x4 + (-1))) (lv' := [(4, .int (x4 + (-1))), (3, .int t0), (0, .ref (u 0)), (1, .ref (u r1)), (2, .int x2)]) hx hb dmX13_makeArcs_58 hl (k := 4) rfl rfl (by decide) rfl (fun ls hl => ?_)
        refine lv_goto (tgt := 29) hx hb dmX13_makeArcs_61 (by decide) ?_
        exact ih_2 x2 t0 (x4 + (-1)) r1 0 z H locs ls hr1 hM (lv_sub hl [2, 3, 4, 1, 0] rfl) hq
      · intro x2 x3 x4 r1 t0 z H locs ls hr1 hM hl hq
        have hq : qm_X13_makeArcs_4 K (q_X13_makeArcs K k) x2 x3 x4 r1 t0 z = some z1 := hq
        unfold qm_X13_makeArcs_4 at hq
        refine lv_iload hx hb dmX13_makeArcs_77 (lv_at hl 4 rfl) ?_
        refine lv_aload_n hx hb dmX13_makeArcs_79 rfl (lv_at hl 1 rfl) ?_
        refine mg13_452 hx hb hT hown hK hM hN hr1 dmX13_makeArcs_80 ?_
        refine lv_iload_n hx hb dmX13_makeArcs_83 rfl (lv_at hl 2 rfl) ?_
        refine lv_iconst (v := 1) hx hb dmX13_makeArcs_84 (by decide) ?_
        refine lv_iadd hx hb dmX13_makeArcs_85 ?_
        refine tw_iald mX_ok hx hb hK hM (mrn_3 hr1) hq dmX13_makeArcs_86 (fun v7 hq => ?_)
        refine lv_icmp_ge (tgt := 107) hx hb dmX13_makeArcs_87 (by decide) (fun hc => ?_) (fun hc => ?_)
        · have hq := tw_it hq hc
          refine lv_aload_n hx hb dmX13_makeArcs_107 rfl (lv_at hl 0 rfl) ?_
          refine lv_dup hx hb dmX13_makeArcs_108 rfl ?_
          refine mg13_626 hx hb hT hown hK hM hq dmX13_makeArcs_109 (fun v8 hq => ?_)
          refine lv_iconst (v := 1) hx hb dmX13_makeArcs_112 (by decide) ?_
          refine lv_iadd hx hb dmX13_makeArcs_113 ?_
          refine mp13_626 hx hb hT hown hK hM hU hq dmX13_makeArcs_114 (fun z9 H locs hM hq => ?_)
          refine lv_goto (tgt := 203) hx hb dmX13_makeArcs_117 (by decide) ?_
          exact ih_7 x2 x3 x4 r1 0 z9 H locs ls hr1 hM (lv_sub hl [0, 1, 2, 3, 4] rfl) hq
        · have hq := tw_if hq hc
          refine lv_aload_n hx hb dmX13_makeArcs_90 rfl (lv_at hl 0 rfl) ?_
          refine mg13_232 hx hb hT hown hK hM dmX13_makeArcs_91 ?_
          refine lv_iload hx hb dmX13_makeArcs_94 (lv_at hl 4 rfl) ?_
          refine lv_aload_n hx hb dmX13_makeArcs_96 rfl (lv_at hl 0 rfl) ?_
          refine mg13_626 hx hb hT hown hK hM hq dmX13_makeArcs_97 (fun v10 hq => ?_)
          refine tw_iast mX_ok hU hx hb hK hM mr_59 hq dmX13_makeArcs_100 (fun z11 H locs hM hq => ?_)
          refine lv_iinc (v := (x4 + 1)) (lv' := [(4, .int (x4 + 1)), (0, .ref (u 0)), (1, .ref (u r1)), (2, .int x2), (3, .int x3)]) hx hb dmX13_makeArcs_101 hl (k := 4) rfl rfl (by decide) rfl (fun ls hl => ?_)
          refine lv_goto (tgt := 77) hx hb dmX13_makeArcs_104 (by decide) ?_
          exact ih_4 x2 x3 (x4 + 1) r1 0 z11 H locs ls hr1 hM (lv_sub hl [1, 2, 3, 4, 0] rfl) hq
      · intro x2 x3 x4 r1 t0 z H locs ls hr1 hM hl hq
        have hq : qm_X13_makeArcs_5 K (q_X13_makeArcs K k) x2 x3 x4 r1 t0 z = some z1 := hq
        unfold qm_X13_makeArcs_5 at hq
        refine lv_aload_n hx hb dmX13_makeArcs_123 rfl (lv_at hl 0 rfl) ?_
        refine mg13_235 hx hb hT hown hK hM dmX13_makeArcs_124 ?_
        refine lv_iload hx hb dmX13_makeArcs_127 (lv_at hl 4 rfl) ?_
        refine lv_aload_n hx hb dmX13_makeArcs_129 rfl (lv_at hl 0 rfl) ?_
        refine mg13_626 hx hb hT hown hK hM hq dmX13_makeArcs_130 (fun v12 hq => ?_)
        refine tw_iast mX_ok hU hx hb hK hM mr_60 hq dmX13_makeArcs_133 (fun z13 H locs hM hq => ?_)
        refine lv_aload_n hx hb dmX13_makeArcs_134 rfl (lv_at hl 1 rfl) ?_
        refine mg13_38 hx hb hT hown hK hM hN hr1 dmX13_makeArcs_135 ?_
        refine lv_iload hx hb dmX13_makeArcs_138 (lv_at hl 4 rfl) ?_
        refine tw_iald mX_ok hx hb hK hM (mrn_9 hr1) hq dmX13_makeArcs_140 (fun v14 hq => ?_)
        refine lv_istore (lv' := [(4, .int v14), (0, .ref (u 0)), (1, .ref (u r1)), (2, .int x2), (3, .int x3)]) hx hb dmX13_makeArcs_141 hl (by decide) rfl (fun ls hl => ?_)
        exact ih_6 x2 x3 v14 r1 0 z13 H locs ls hr1 hM (lv_sub hl [1, 2, 3, 4, 0] rfl) hq
      · intro x2 x3 x4 r1 t0 z H locs ls hr1 hM hl hq
        have hq : qm_X13_makeArcs_6 K (q_X13_makeArcs K k) x2 x3 x4 r1 t0 z = some z1 := hq
        unfold qm_X13_makeArcs_6 at hq
        refine lv_aload_n hx hb dmX13_makeArcs_143 rfl (lv_at hl 1 rfl) ?_
        refine mg13_32 hx hb hT hown hK hM hN hr1 dmX13_makeArcs_144 ?_
        refine lv_iload hx hb dmX13_makeArcs_147 (lv_at hl 4 rfl) ?_
        refine tw_iald mX_ok hx hb hK hM (mrn_5 hr1) hq dmX13_makeArcs_149 (fun v15 hq => ?_)
        refine lv_if_ne (tgt := 176) hx hb dmX13_makeArcs_150 (by decide) (fun hc => ?_) (fun hc => ?_)
        · have hq := tw_if hq hc
          refine lv_aload_n hx hb dmX13_makeArcs_176 rfl (lv_at hl 0 rfl) ?_
          refine mg13_232 hx hb hT hown hK hM dmX13_makeArcs_177 ?_
          refine lv_iload hx hb dmX13_makeArcs_180 (lv_at hl 4 rfl) ?_
          refine lv_aload_n hx hb dmX13_makeArcs_182 rfl (lv_at hl 0 rfl) ?_
          refine mg13_626 hx hb hT hown hK hM hq dmX13_makeArcs_183 (fun v16 hq => ?_)
          refine tw_iast mX_ok hU hx hb hK hM mr_59 hq dmX13_makeArcs_186 (fun z17 H locs hM hq => ?_)
          refine lv_aload_n hx hb dmX13_makeArcs_187 rfl (lv_at hl 0 rfl) ?_
          refine lv_dup hx hb dmX13_makeArcs_188 rfl ?_
          refine mg13_626 hx hb hT hown hK hM hq dmX13_makeArcs_189 (fun v18 hq => ?_)
          refine lv_iconst (v := 1) hx hb dmX13_makeArcs_192 (by decide) ?_
          refine lv_iadd hx hb dmX13_makeArcs_193 ?_
          refine mp13_626 hx hb hT hown hK hM hU hq dmX13_makeArcs_194 (fun z19 H locs hM hq => ?_)
          refine lv_iload hx hb dmX13_makeArcs_197 (lv_at hl 4 rfl) ?_
          refine lv_iload_n hx hb dmX13_makeArcs_199 rfl (lv_at hl 3 rfl) ?_
          refine lv_icmp_ne (tgt := 123) hx hb dmX13_makeArcs_200 (by decide) (fun hc => ?_) (fun hc => ?_)
          · have hq := tw_if hq hc
            exact ih_5 x2 x3 x4 r1 0 z19 H locs ls hr1 hM (lv_sub hl [0, 1, 2, 3, 4] rfl) hq
          · have hq := tw_it hq hc
            exact ih_7 x2 x3 x4 r1 0 z19 H locs ls hr1 hM (lv_sub hl [0, 1, 2, 3, 4] rfl) hq
        · have hq := tw_it hq hc
          refine lv_aload_n hx hb dmX13_makeArcs_153 rfl (lv_at hl 0 rfl) ?_
          refine mg13_232 hx hb hT hown hK hM dmX13_makeArcs_154 ?_
          refine lv_iload hx hb dmX13_makeArcs_157 (lv_at hl 4 rfl) ?_
          refine lv_aload_n hx hb dmX13_makeArcs_159 rfl (lv_at hl 0 rfl) ?_
          refine mg13_626 hx hb hT hown hK hM hq dmX13_makeArcs_160 (fun v20 hq => ?_)
          refine tw_iast mX_ok hU hx hb hK hM mr_59 hq dmX13_makeArcs_163 (fun z21 H locs hM hq => ?_)
          refine lv_aload_n hx hb dmX13_makeArcs_164 rfl (lv_at hl 1 rfl) ?_
          refine mg13_38 hx hb hT hown hK hM hN hr1 dmX13_makeArcs_165 ?_
          refine lv_iload hx hb dmX13_makeArcs_168 (lv_at hl 4 rfl) ?_
          refine tw_iald mX_ok hx hb hK hM (mrn_9 hr1) hq dmX13_makeArcs_170 (fun v22 hq => ?_)
          refine lv_istore (lv' := [(4, .int v22), (0, .ref (u 0)), (1, .ref (u r1)), (2, .int x2), (3, .int x3)]) hx hb dmX13_makeArcs_171 hl (by decide) rfl (fun ls hl => ?_)
          refine lv_goto (tgt := 143) hx hb dmX13_makeArcs_173 (by decide) ?_
          exact ih_6 x2 x3 v22 r1 0 z21 H locs ls hr1 hM (lv_sub hl [1, 2, 3, 4, 0] rfl) hq
      · intro x2 x3 x4 r1 t0 z H locs ls hr1 hM hl hq
        have hq : qm_X13_makeArcs_7 K (q_X13_makeArcs K k) x2 x3 x4 r1 t0 z = some z1 := hq
        unfold qm_X13_makeArcs_7 at hq
        refine lv_iinc (v := (x2 + 1)) (lv' := [(2, .int (x2 + 1)), (0, .ref (u 0)), (1, .ref (u r1)), (3, .int x3), (4, .int x4)]) hx hb dmX13_makeArcs_203 hl (k := 2) rfl rfl (by decide) rfl (fun ls hl => ?_)
        refine lv_goto (tgt := 7) hx hb dmX13_makeArcs_206 (by decide) ?_
        exact ih_1 (x2 + 1) 0 0 r1 0 z H locs ls hr1 hM (lv_sub hl [1, 2, 0] rfl) hq
      · intro x2 x3 x4 r1 t0 z H locs ls hr1 hM hl hq
        have hq : qm_X13_makeArcs_8 K (q_X13_makeArcs K k) x2 x3 x4 r1 t0 z = some z1 := hq
        unfold qm_X13_makeArcs_8 at hq
        refine lv_iload_n hx hb dmX13_makeArcs_211 rfl (lv_at hl 2 rfl) ?_
        refine lv_aload_n hx hb dmX13_makeArcs_212 rfl (lv_at hl 1 rfl) ?_
        refine mg13_44 hx hb hT hown hK hM hN hr1 hq dmX13_makeArcs_213 (fun v23 hq => ?_)
        refine lv_icmp_ge (tgt := 280) hx hb dmX13_makeArcs_216 (by decide) (fun hc => ?_) (fun hc => ?_)
        · have hq := tw_it hq hc
          exact mw_vret hx hb hr hlocks hM hq hQQ dmX13_makeArcs_280
        · have hq := tw_if hq hc
          refine lv_aload_n hx hb dmX13_makeArcs_219 rfl (lv_at hl 1 rfl) ?_
          refine mg13_23 hx hb hT hown hK hM hN hr1 dmX13_makeArcs_220 ?_
          refine lv_iload_n hx hb dmX13_makeArcs_223 rfl (lv_at hl 2 rfl) ?_
          refine tw_iald mX_ok hx hb hK hM (mrn_4 hr1) hq dmX13_makeArcs_224 (fun v24 hq => ?_)
          refine lv_istore_n (lv' := [(3, .int v24), (0, .ref (u 0)), (1, .ref (u r1)), (2, .int x2)]) hx hb dmX13_makeArcs_225 rfl hl (by decide) rfl (fun ls hl => ?_)
          refine lv_aload_n hx hb dmX13_makeArcs_226 rfl (lv_at hl 2 rfl) ?_
          refine mg13_32 hx hb hT hown hK hM hN hr1 dmX13_makeArcs_227 ?_
          refine lv_iload_n hx hb dmX13_makeArcs_230 rfl (lv_at hl 3 rfl) ?_
          refine tw_iald mX_ok hx hb hK hM (mrn_5 hr1) hq dmX13_makeArcs_231 (fun v25 hq => ?_)
          refine lv_if_ne (tgt := 250) hx hb dmX13_makeArcs_232 (by decide) (fun hc => ?_) (fun hc => ?_)
          · have hq := tw_if hq hc
            refine lv_aload_n hx hb dmX13_makeArcs_250 rfl (lv_at hl 1 rfl) ?_
            refine mg13_241 hx hb hT hown hK hM dmX13_makeArcs_251 ?_
            refine lv_iload_n hx hb dmX13_makeArcs_254 rfl (lv_at hl 0 rfl) ?_
            refine lv_aload_n hx hb dmX13_makeArcs_255 rfl (lv_at hl 1 rfl) ?_
            refine mg13_232 hx hb hT hown hK hM dmX13_makeArcs_256 ?_
            refine lv_iload_n hx hb dmX13_makeArcs_259 rfl (lv_at hl 3 rfl) ?_
            refine tw_iald mX_ok hx hb hK hM mr_59 hq dmX13_makeArcs_260 (fun v26 hq => ?_)
            refine tw_iast mX_ok hU hx hb hK hM mr_62 hq dmX13_makeArcs_261 (fun z27 H locs hM hq => ?_)
            refine lv_aload_n hx hb dmX13_makeArcs_262 rfl (lv_at hl 1 rfl) ?_
            refine mg13_244 hx hb hT hown hK hM dmX13_makeArcs_263 ?_
            refine lv_iload_n hx hb dmX13_makeArcs_266 rfl (lv_at hl 0 rfl) ?_
            refine lv_aload_n hx hb dmX13_makeArcs_267 rfl (lv_at hl 1 rfl) ?_
            refine mg13_235 hx hb hT hown hK hM dmX13_makeArcs_268 ?_
            refine lv_iload_n hx hb dmX13_makeArcs_271 rfl (lv_at hl 3 rfl) ?_
            refine tw_iald mX_ok hx hb hK hM mr_60 hq dmX13_makeArcs_272 (fun v28 hq => ?_)
            refine tw_iast mX_ok hU hx hb hK hM mr_63 hq dmX13_makeArcs_273 (fun z29 H locs hM hq => ?_)
            exact ih_9 x2 v24 0 r1 0 z29 H locs ls hr1 hM (lv_sub hl [1, 2, 3, 0] rfl) hq
          · have hq := tw_it hq hc
            refine lv_aload_n hx hb dmX13_makeArcs_235 rfl (lv_at hl 1 rfl) ?_
            refine mg13_238 hx hb hT hown hK hM dmX13_makeArcs_236 ?_
            refine lv_iload_n hx hb dmX13_makeArcs_239 rfl (lv_at hl 0 rfl) ?_
            refine lv_aload_n hx hb dmX13_makeArcs_240 rfl (lv_at hl 1 rfl) ?_
            refine mg13_232 hx hb hT hown hK hM dmX13_makeArcs_241 ?_
            refine lv_iload_n hx hb dmX13_makeArcs_244 rfl (lv_at hl 3 rfl) ?_
            refine tw_iald mX_ok hx hb hK hM mr_59 hq dmX13_makeArcs_245 (fun v30 hq => ?_)
            refine tw_iast mX_ok hU hx hb hK hM mr_61 hq dmX13_makeArcs_246 (fun z31 H locs hM hq => ?_)
            refine lv_goto (tgt := 274) hx hb dmX13_makeArcs_247 (by decide) ?_
            exact ih_9 x2 v24 0 r1 0 z31 H locs ls hr1 hM (lv_sub hl [1, 2, 3, 0] rfl) hq
      · intro x2 x3 x4 r1 t0 z H locs ls hr1 hM hl hq
        have hq : qm_X13_makeArcs_9 K (q_X13_makeArcs K k) x2 x3 x4 r1 t0 z = some z1 := hq
        unfold qm_X13_makeArcs_9 at hq
        refine lv_iinc (v := (x2 + 1)) (lv' := [(2, .int (x2 + 1)), (0, .ref (u 0)), (1, .ref (u r1)), (3, .int x3)]) hx hb dmX13_makeArcs_274 hl (k := 2) rfl rfl (by decide) rfl (fun ls hl => ?_)
        refine lv_goto (tgt := 211) hx hb dmX13_makeArcs_277 (by decide) ?_
        exact ih_8 (x2 + 1) 0 0 r1 0 z H locs ls hr1 hM (lv_sub hl [1, 2, 0] rfl) hq
  exact (key K).1 0 0 0 r1 0 z s.heap [] ls hr1 hM (lv_sub hl [0, 1] rfl) hq
theorem dmX13_gcd_0 : decode cX13_gcd 0 = .ok (.lload_n 0, 1) := by decide +kernel
theorem dmX13_gcd_1 : decode cX13_gcd 1 = .ok (.lstore 4, 2) := by decide +kernel
theorem dmX13_gcd_3 : decode cX13_gcd 3 = .ok (.lload_n 2, 1) := by decide +kernel
theorem dmX13_gcd_4 : decode cX13_gcd 4 = .ok (.lstore 6, 2) := by decide +kernel
theorem dmX13_gcd_6 : decode cX13_gcd 6 = .ok (.lload 6, 2) := by decide +kernel
theorem dmX13_gcd_8 : decode cX13_gcd 8 = .ok (.lconst 0, 1) := by decide +kernel
theorem dmX13_gcd_9 : decode cX13_gcd 9 = .ok (.lcmp, 1) := by decide +kernel
theorem dmX13_gcd_10 : decode cX13_gcd 10 = .ok (.ifCond .eq 21, 3) := by decide +kernel
theorem dmX13_gcd_13 : decode cX13_gcd 13 = .ok (.lload 4, 2) := by decide +kernel
theorem dmX13_gcd_15 : decode cX13_gcd 15 = .ok (.lload 6, 2) := by decide +kernel
theorem dmX13_gcd_17 : decode cX13_gcd 17 = .ok (.lrem, 1) := by decide +kernel
theorem dmX13_gcd_18 : decode cX13_gcd 18 = .ok (.lstore 8, 2) := by decide +kernel
theorem dmX13_gcd_20 : decode cX13_gcd 20 = .ok (.lload 6, 2) := by decide +kernel
theorem dmX13_gcd_22 : decode cX13_gcd 22 = .ok (.lstore 4, 2) := by decide +kernel
theorem dmX13_gcd_24 : decode cX13_gcd 24 = .ok (.lload 8, 2) := by decide +kernel
theorem dmX13_gcd_26 : decode cX13_gcd 26 = .ok (.lstore 6, 2) := by decide +kernel
theorem dmX13_gcd_28 : decode cX13_gcd 28 = .ok (.goto (-22), 3) := by decide +kernel
theorem dmX13_gcd_31 : decode cX13_gcd 31 = .ok (.lload 4, 2) := by decide +kernel
theorem dmX13_gcd_33 : decode cX13_gcd 33 = .ok (.lreturn, 1) := by decide +kernel
def qm_X13_gcd_0 (K : Nat) (go : Nat → Int64 → Int64 → Int64 → Int64 → ow_MS → Option (Int64 × ow_MS)) (w0 : Int64) (w2 : Int64) (w4 : Int64) (w6 : Int64) (z : ow_MS) : Option (Int64 × ow_MS) :=
 go 1 w0 w2 w0 w2 z
def qm_X13_gcd_1 (K : Nat) (go : Nat → Int64 → Int64 → Int64 → Int64 → ow_MS → Option (Int64 × ow_MS)) (w0 : Int64) (w2 : Int64) (w4 : Int64) (w6 : Int64) (z : ow_MS) : Option (Int64 × ow_MS) :=
 (if (lg_cmp w6 0) = 0 then some (w4, z)
 else nzJ w6 (go 1 w0 w2 w6 (w4 - w4 / w6 * w6) z))
def qb_X13_gcd (K : Nat) (go : Nat → Int64 → Int64 → Int64 → Int64 → ow_MS → Option (Int64 × ow_MS)) (L : Nat) (w0 : Int64) (w2 : Int64) (w4 : Int64) (w6 : Int64) (z : ow_MS) : Option (Int64 × ow_MS) := match L with
  | 0 => qm_X13_gcd_0 K go w0 w2 w4 w6 z
  | 1 => qm_X13_gcd_1 K go w0 w2 w4 w6 z
  | _ => none
def q_X13_gcd (K : Nat) : Nat → Nat → Int64 → Int64 → Int64 → Int64 → ow_MS → Option (Int64 × ow_MS)
  | 0 => fun _ _ _ _ _ _ => none
  | k + 1 => qb_X13_gcd K (q_X13_gcd K k)
def qe_X13_gcd (K : Nat) (w0 : Int64) (w2 : Int64) (z : ow_MS) : Option (Int64 × ow_MS) := q_X13_gcd K K 0 w0 w2 0 0 z
abbrev wm_X13_gcd : List Cond := .code yX13_gcd cX13_gcd 10 (some .long) :: wM
theorem cd_X13_gcd : yX13_gcd.cls ≠ "java/lang/invoke/MethodHandle" ∧ yX13_gcd.cls ≠ "java/lang/invoke/VarHandle" ∧ (parseMethodDescriptor yX13_gcd.desc).map (fun d => d.parameters.length) = some 2 := by decide +kernel
set_option maxHeartbeats 4000000 in
set_option maxRecDepth 100000 in
theorem km_X13_gcd (l : Launch) (D : va_G) (q : ow_Q5) (u : Nat → Nat) (hU : tw_inj mX u) (K : Nat) (w0 : Int64) (w2 : Int64)  (z z1 : ow_MS) (r : Int64) (hq : qe_X13_gcd K w0 w2 z = some (r, z1)) : Met l yX13_gcd wm_X13_gcd ({ frames := 0, cells := 0, slots := 0, locals := 0 } : Room) (va_Pc [.long w0, .long w2] (mw_pre D q u z)) (va_Ql (fun x (_ : Unit) => x = r) (fun _ t => va_P D vwCl (tw mX q u z1) t.heap) (tw_A mX u)) 0 0 (tw_A mX u) := by
  refine Met.ofW (cc := cX13_gcd) (maxL := 10) (ret := (some .long)) (by decide) rfl ?_
  intro p e s m args below meth c s₁ B hml hv
  obtain ⟨rfl, hP, hK, hN⟩ := hv
  have hx := B.exec
  have hb := B.bytes
  have hr := B.returns
  have hts := atoms_spec (ws := wm_X13_gcd) B.pre
  have hT : ∀ w ∈ wM, w.before ([.long w0, .long w2] : List Value).toArray s = true := fun w h => hts w (List.mem_cons_of_mem _ h)
  have hown : s.vm.findClass RX13 = some m.cls := findClass_of_methodNamed B.named
  have hlocks := B.notSynchronized
  have hM : tw_M D vwCl mX q s.heap u z s.heap [] := ⟨hP, va_S.rf⟩
  have hl := lv_entry ([.long w0, .long w2]) (n := 10) (Nat.le_of_ble_eq_true rfl)
  rw [lg_entry_eq]
  generalize (lg_sl ([.long w0, .long w2]) ++ List.replicate (10 - (lg_sl ([.long w0, .long w2])).length) Slot.unset).toArray = ls at hl ⊢
  have hl : lv_has ls 10 [(0, .long w0), (2, .long w2)] := hl
  refine ow_named (fun QQ hQQ => ?_)
  generalize ([.long w0, .long w2] : List Value).toArray = args at hts hT hQQ ⊢
  have key : ∀ k : Nat, (∀ (w0 : Int64) (w2 : Int64) (w4 : Int64) (w6 : Int64) (z : ow_MS) (H : Heap) (locs : List Loc) (ls : Array Slot), tw_M D vwCl mX q s.heap u z H locs → lv_has ls 10 [(0, .long w0), (2, .long w2)] → q_X13_gcd K k 0 w0 w2 w4 w6 z = some (r, z1) → W p l e ({ frames := 0, cells := 0, slots := 0, locals := 0 } : Room) s m args below meth c H locs 0 0 QQ (F0 m 0 ls [])) ∧ (∀ (w0 : Int64) (w2 : Int64) (w4 : Int64) (w6 : Int64) (z : ow_MS) (H : Heap) (locs : List Loc) (ls : Array Slot), tw_M D vwCl mX q s.heap u z H locs → lv_has ls 10 [(0, .long w0), (2, .long w2), (4, .long w4), (6, .long w6)] → q_X13_gcd K k 1 w0 w2 w4 w6 z = some (r, z1) → W p l e ({ frames := 0, cells := 0, slots := 0, locals := 0 } : Room) s m args below meth c H locs 0 0 QQ (F0 m 6 ls [])) := by
    intro k
    induction k with
    | zero => exact ⟨fun _ _ _ _ _ _ _ _  _ _ hq => tw_no hq, fun _ _ _ _ _ _ _ _  _ _ hq => tw_no hq⟩
    | succ k ih =>
      obtain ⟨ih_0, ih_1⟩ := ih
      refine ⟨?_, ?_⟩
      · intro w0 w2 w4 w6 z H locs ls  hM hl hq
        have hq : qm_X13_gcd_0 K (q_X13_gcd K k) w0 w2 w4 w6 z = some (r, z1) := hq
        unfold qm_X13_gcd_0 at hq
        refine lv_lload_n hx hb dmX13_gcd_0 rfl (lv_at hl 0 rfl) ?_
        refine lv_lstore (lv' := [(4, .long w0), (0, .long w0), (2, .long w2)]) hx hb dmX13_gcd_1 hl (by decide) rfl (fun ls hl => ?_)
        refine lv_lload_n hx hb dmX13_gcd_3 rfl (lv_at hl 2 rfl) ?_
        refine lv_lstore (lv' := [(6, .long w2), (4, .long w0), (0, .long w0), (2, .long w2)]) hx hb dmX13_gcd_4 hl (by decide) rfl (fun ls hl => ?_)
        exact ih_1 w0 w2 w0 w2 z H locs ls hM (lv_sub hl [2, 3, 1, 0] rfl) hq
      · intro w0 w2 w4 w6 z H locs ls  hM hl hq
        have hq : qm_X13_gcd_1 K (q_X13_gcd K k) w0 w2 w4 w6 z = some (r, z1) := hq
        unfold qm_X13_gcd_1 at hq
        refine lv_lload hx hb dmX13_gcd_6 (lv_at hl 3 rfl) ?_
        refine lv_lconst (v := 0) hx hb dmX13_gcd_8 rfl ?_
        refine W.lcmp hx hb dmX13_gcd_9 ?_
        refine lv_if_eq (tgt := 31) hx hb dmX13_gcd_10 (by decide) (fun hc => ?_) (fun hc => ?_)
        · have hq := tw_it hq hc
          refine lv_lload hx hb dmX13_gcd_31 (lv_at hl 2 rfl) ?_
          exact mw_lret hx hb hr hlocks hM hq hQQ dmX13_gcd_33
        · have hq := tw_if hq hc
          refine lv_lload hx hb dmX13_gcd_13 (lv_at hl 2 rfl) ?_
          refine lv_lload hx hb dmX13_gcd_15 (lv_at hl 3 rfl) ?_
          obtain ⟨hz, hq⟩ := tw_nzJ hq
          refine lv_lrem hx hb dmX13_gcd_17 hz ?_
          refine lv_lstore (lv' := [(8, .long (w4 - w4 / w6 * w6)), (0, .long w0), (2, .long w2), (4, .long w4), (6, .long w6)]) hx hb dmX13_gcd_18 hl (by decide) rfl (fun ls hl => ?_)
          refine lv_lload hx hb dmX13_gcd_20 (lv_at hl 4 rfl) ?_
          refine lv_lstore (lv' := [(4, .long w6), (8, .long (w4 - w4 / w6 * w6)), (0, .long w0), (2, .long w2), (6, .long w6)]) hx hb dmX13_gcd_22 hl (by decide) rfl (fun ls hl => ?_)
          refine lv_lload hx hb dmX13_gcd_24 (lv_at hl 1 rfl) ?_
          refine lv_lstore (lv' := [(6, .long (w4 - w4 / w6 * w6)), (4, .long w6), (8, .long (w4 - w4 / w6 * w6)), (0, .long w0), (2, .long w2)]) hx hb dmX13_gcd_26 hl (by decide) rfl (fun ls hl => ?_)
          refine lv_goto (tgt := 6) hx hb dmX13_gcd_28 (by decide) ?_
          exact ih_1 w0 w2 w6 (w4 - w4 / w6 * w6) z H locs ls hM (lv_sub hl [3, 4, 1, 0] rfl) hq
  exact (key K).1 w0 w2 0 0 z s.heap [] ls  hM (lv_sub hl [0, 1] rfl) hq
theorem dmX13_minor_0 : decode cX13_minor 0 = .ok (.iconst 0, 1) := dw_at cX13_minor_k0 (p := 0) rfl (by decide +kernel)
theorem dmX13_minor_1 : decode cX13_minor 1 = .ok (.istore 4, 2) := dw_at cX13_minor_k0 (p := 1) rfl (by decide +kernel)
theorem dmX13_minor_3 : decode cX13_minor 3 = .ok (.iconst 0, 1) := dw_at cX13_minor_k0 (p := 3) rfl (by decide +kernel)
theorem dmX13_minor_4 : decode cX13_minor 4 = .ok (.istore 5, 2) := dw_at cX13_minor_k0 (p := 4) rfl (by decide +kernel)
theorem dmX13_minor_6 : decode cX13_minor 6 = .ok (.iload 5, 2) := dw_at cX13_minor_k0 (p := 6) rfl (by decide +kernel)
theorem dmX13_minor_8 : decode cX13_minor 8 = .ok (.aload_n 0, 1) := dw_at cX13_minor_k0 (p := 8) rfl (by decide +kernel)
theorem dmX13_minor_9 : decode cX13_minor 9 = .ok (.getfield 651, 3) := dw_at cX13_minor_k0 (p := 9) rfl (by decide +kernel)
theorem dmX13_minor_12 : decode cX13_minor 12 = .ok (.if_icmp .ge 92, 3) := dw_at cX13_minor_k0 (p := 12) rfl (by decide +kernel)
theorem dmX13_minor_15 : decode cX13_minor 15 = .ok (.iload_n 1, 1) := dw_at cX13_minor_k0 (p := 15) rfl (by decide +kernel)
theorem dmX13_minor_16 : decode cX13_minor 16 = .ok (.iload 5, 2) := dw_at cX13_minor_k0 (p := 16) rfl (by decide +kernel)
theorem dmX13_minor_18 : decode cX13_minor 18 = .ok (.ishr, 1) := dw_at cX13_minor_k0 (p := 18) rfl (by decide +kernel)
theorem dmX13_minor_19 : decode cX13_minor 19 = .ok (.iconst 1, 1) := dw_at cX13_minor_k0 (p := 19) rfl (by decide +kernel)
theorem dmX13_minor_20 : decode cX13_minor 20 = .ok (.iand, 1) := dw_at cX13_minor_k0 (p := 20) rfl (by decide +kernel)
theorem dmX13_minor_21 : decode cX13_minor 21 = .ok (.iconst 1, 1) := dw_at cX13_minor_k0 (p := 21) rfl (by decide +kernel)
theorem dmX13_minor_22 : decode cX13_minor 22 = .ok (.if_icmp .ne 76, 3) := dw_at cX13_minor_k0 (p := 22) rfl (by decide +kernel)
theorem dmX13_minor_25 : decode cX13_minor 25 = .ok (.iconst 0, 1) := dw_at cX13_minor_k1 (p := 0) rfl (by decide +kernel)
theorem dmX13_minor_26 : decode cX13_minor 26 = .ok (.istore 6, 2) := dw_at cX13_minor_k1 (p := 1) rfl (by decide +kernel)
theorem dmX13_minor_28 : decode cX13_minor 28 = .ok (.iconst 0, 1) := dw_at cX13_minor_k1 (p := 3) rfl (by decide +kernel)
theorem dmX13_minor_29 : decode cX13_minor 29 = .ok (.istore 7, 2) := dw_at cX13_minor_k1 (p := 4) rfl (by decide +kernel)
theorem dmX13_minor_31 : decode cX13_minor 31 = .ok (.iload 7, 2) := dw_at cX13_minor_k1 (p := 6) rfl (by decide +kernel)
theorem dmX13_minor_33 : decode cX13_minor 33 = .ok (.aload_n 0, 1) := dw_at cX13_minor_k1 (p := 8) rfl (by decide +kernel)
theorem dmX13_minor_34 : decode cX13_minor 34 = .ok (.getfield 654, 3) := dw_at cX13_minor_k1 (p := 9) rfl (by decide +kernel)
theorem dmX13_minor_37 : decode cX13_minor 37 = .ok (.if_icmp .ge 58, 3) := dw_at cX13_minor_k1 (p := 12) rfl (by decide +kernel)
theorem dmX13_minor_40 : decode cX13_minor 40 = .ok (.iload_n 2, 1) := dw_at cX13_minor_k1 (p := 15) rfl (by decide +kernel)
theorem dmX13_minor_41 : decode cX13_minor 41 = .ok (.iload 7, 2) := dw_at cX13_minor_k1 (p := 16) rfl (by decide +kernel)
theorem dmX13_minor_43 : decode cX13_minor 43 = .ok (.ishr, 1) := dw_at cX13_minor_k1 (p := 18) rfl (by decide +kernel)
theorem dmX13_minor_44 : decode cX13_minor 44 = .ok (.iconst 1, 1) := dw_at cX13_minor_k1 (p := 19) rfl (by decide +kernel)
theorem dmX13_minor_45 : decode cX13_minor 45 = .ok (.iand, 1) := dw_at cX13_minor_k1 (p := 20) rfl (by decide +kernel)
theorem dmX13_minor_46 : decode cX13_minor 46 = .ok (.iconst 1, 1) := dw_at cX13_minor_k1 (p := 21) rfl (by decide +kernel)
theorem dmX13_minor_47 : decode cX13_minor 47 = .ok (.if_icmp .ne 42, 3) := dw_at cX13_minor_k1 (p := 22) rfl (by decide +kernel)
theorem dmX13_minor_50 : decode cX13_minor 50 = .ok (.aload_n 0, 1) := dw_at cX13_minor_k2 (p := 0) rfl (by decide +kernel)
theorem dmX13_minor_51 : decode cX13_minor 51 = .ok (.getfield 262, 3) := dw_at cX13_minor_k2 (p := 1) rfl (by decide +kernel)
theorem dmX13_minor_54 : decode cX13_minor 54 = .ok (.bipush 13, 2) := dw_at cX13_minor_k2 (p := 4) rfl (by decide +kernel)
theorem dmX13_minor_56 : decode cX13_minor 56 = .ok (.iload 4, 2) := dw_at cX13_minor_k2 (p := 6) rfl (by decide +kernel)
theorem dmX13_minor_58 : decode cX13_minor 58 = .ok (.imul, 1) := dw_at cX13_minor_k2 (p := 8) rfl (by decide +kernel)
theorem dmX13_minor_59 : decode cX13_minor 59 = .ok (.iload 6, 2) := dw_at cX13_minor_k2 (p := 9) rfl (by decide +kernel)
theorem dmX13_minor_61 : decode cX13_minor 61 = .ok (.iadd, 1) := dw_at cX13_minor_k2 (p := 11) rfl (by decide +kernel)
theorem dmX13_minor_62 : decode cX13_minor 62 = .ok (.aload_n 0, 1) := dw_at cX13_minor_k2 (p := 12) rfl (by decide +kernel)
theorem dmX13_minor_63 : decode cX13_minor 63 = .ok (.getfield 247, 3) := dw_at cX13_minor_k2 (p := 13) rfl (by decide +kernel)
theorem dmX13_minor_66 : decode cX13_minor 66 = .ok (.bipush 24, 2) := dw_at cX13_minor_k2 (p := 16) rfl (by decide +kernel)
theorem dmX13_minor_68 : decode cX13_minor 68 = .ok (.aload_n 0, 1) := dw_at cX13_minor_k2 (p := 18) rfl (by decide +kernel)
theorem dmX13_minor_69 : decode cX13_minor 69 = .ok (.getfield 256, 3) := dw_at cX13_minor_k2 (p := 19) rfl (by decide +kernel)
theorem dmX13_minor_72 : decode cX13_minor 72 = .ok (.iload 5, 2) := dw_at cX13_minor_k2 (p := 22) rfl (by decide +kernel)
theorem dmX13_minor_74 : decode cX13_minor 74 = .ok (.iaload, 1) := dw_at cX13_minor_k3 (p := 0) rfl (by decide +kernel)
theorem dmX13_minor_75 : decode cX13_minor 75 = .ok (.imul, 1) := dw_at cX13_minor_k3 (p := 1) rfl (by decide +kernel)
theorem dmX13_minor_76 : decode cX13_minor 76 = .ok (.aload_n 0, 1) := dw_at cX13_minor_k3 (p := 2) rfl (by decide +kernel)
theorem dmX13_minor_77 : decode cX13_minor 77 = .ok (.getfield 259, 3) := dw_at cX13_minor_k3 (p := 3) rfl (by decide +kernel)
theorem dmX13_minor_80 : decode cX13_minor 80 = .ok (.iload 7, 2) := dw_at cX13_minor_k3 (p := 6) rfl (by decide +kernel)
theorem dmX13_minor_82 : decode cX13_minor 82 = .ok (.iaload, 1) := dw_at cX13_minor_k3 (p := 8) rfl (by decide +kernel)
theorem dmX13_minor_83 : decode cX13_minor 83 = .ok (.iadd, 1) := dw_at cX13_minor_k3 (p := 9) rfl (by decide +kernel)
theorem dmX13_minor_84 : decode cX13_minor 84 = .ok (.laload, 1) := dw_at cX13_minor_k3 (p := 10) rfl (by decide +kernel)
theorem dmX13_minor_85 : decode cX13_minor 85 = .ok (.lastore, 1) := dw_at cX13_minor_k3 (p := 11) rfl (by decide +kernel)
theorem dmX13_minor_86 : decode cX13_minor 86 = .ok (.iinc 6 1, 3) := dw_at cX13_minor_k3 (p := 12) rfl (by decide +kernel)
theorem dmX13_minor_89 : decode cX13_minor 89 = .ok (.iinc 7 1, 3) := dw_at cX13_minor_k3 (p := 15) rfl (by decide +kernel)
theorem dmX13_minor_92 : decode cX13_minor 92 = .ok (.goto (-61), 3) := dw_at cX13_minor_k3 (p := 18) rfl (by decide +kernel)
theorem dmX13_minor_95 : decode cX13_minor 95 = .ok (.iinc 4 1, 3) := dw_at cX13_minor_k3 (p := 21) rfl (by decide +kernel)
theorem dmX13_minor_98 : decode cX13_minor 98 = .ok (.iinc 5 1, 3) := dw_at cX13_minor_k4 (p := 0) rfl (by decide +kernel)
theorem dmX13_minor_101 : decode cX13_minor 101 = .ok (.goto (-95), 3) := dw_at cX13_minor_k4 (p := 3) rfl (by decide +kernel)
theorem dmX13_minor_104 : decode cX13_minor 104 = .ok (.lconst 1, 1) := dw_at cX13_minor_k4 (p := 6) rfl (by decide +kernel)
theorem dmX13_minor_105 : decode cX13_minor 105 = .ok (.lstore 5, 2) := dw_at cX13_minor_k4 (p := 7) rfl (by decide +kernel)
theorem dmX13_minor_107 : decode cX13_minor 107 = .ok (.iconst 0, 1) := dw_at cX13_minor_k4 (p := 9) rfl (by decide +kernel)
theorem dmX13_minor_108 : decode cX13_minor 108 = .ok (.istore 7, 2) := dw_at cX13_minor_k4 (p := 10) rfl (by decide +kernel)
theorem dmX13_minor_110 : decode cX13_minor 110 = .ok (.iload 7, 2) := dw_at cX13_minor_k4 (p := 12) rfl (by decide +kernel)
theorem dmX13_minor_112 : decode cX13_minor 112 = .ok (.iconst 1, 1) := dw_at cX13_minor_k4 (p := 14) rfl (by decide +kernel)
theorem dmX13_minor_113 : decode cX13_minor 113 = .ok (.iadd, 1) := dw_at cX13_minor_k4 (p := 15) rfl (by decide +kernel)
theorem dmX13_minor_114 : decode cX13_minor 114 = .ok (.iload_n 3, 1) := dw_at cX13_minor_k4 (p := 16) rfl (by decide +kernel)
theorem dmX13_minor_115 : decode cX13_minor 115 = .ok (.if_icmp .ge 241, 3) := dw_at cX13_minor_k4 (p := 17) rfl (by decide +kernel)
theorem dmX13_minor_118 : decode cX13_minor 118 = .ok (.iload 7, 2) := dw_at cX13_minor_k4 (p := 20) rfl (by decide +kernel)
theorem dmX13_minor_120 : decode cX13_minor 120 = .ok (.istore 8, 2) := dw_at cX13_minor_k4 (p := 22) rfl (by decide +kernel)
theorem dmX13_minor_122 : decode cX13_minor 122 = .ok (.iload 8, 2) := dw_at cX13_minor_k5 (p := 0) rfl (by decide +kernel)
theorem dmX13_minor_124 : decode cX13_minor 124 = .ok (.iload_n 3, 1) := dw_at cX13_minor_k5 (p := 2) rfl (by decide +kernel)
theorem dmX13_minor_125 : decode cX13_minor 125 = .ok (.if_icmp .ge 27, 3) := dw_at cX13_minor_k5 (p := 3) rfl (by decide +kernel)
theorem dmX13_minor_128 : decode cX13_minor 128 = .ok (.aload_n 0, 1) := dw_at cX13_minor_k5 (p := 6) rfl (by decide +kernel)
theorem dmX13_minor_129 : decode cX13_minor 129 = .ok (.getfield 262, 3) := dw_at cX13_minor_k5 (p := 7) rfl (by decide +kernel)
theorem dmX13_minor_132 : decode cX13_minor 132 = .ok (.bipush 13, 2) := dw_at cX13_minor_k5 (p := 10) rfl (by decide +kernel)
theorem dmX13_minor_134 : decode cX13_minor 134 = .ok (.iload 8, 2) := dw_at cX13_minor_k5 (p := 12) rfl (by decide +kernel)
theorem dmX13_minor_136 : decode cX13_minor 136 = .ok (.imul, 1) := dw_at cX13_minor_k5 (p := 14) rfl (by decide +kernel)
theorem dmX13_minor_137 : decode cX13_minor 137 = .ok (.iload 7, 2) := dw_at cX13_minor_k5 (p := 15) rfl (by decide +kernel)
theorem dmX13_minor_139 : decode cX13_minor 139 = .ok (.iadd, 1) := dw_at cX13_minor_k5 (p := 17) rfl (by decide +kernel)
theorem dmX13_minor_140 : decode cX13_minor 140 = .ok (.laload, 1) := dw_at cX13_minor_k5 (p := 18) rfl (by decide +kernel)
theorem dmX13_minor_141 : decode cX13_minor 141 = .ok (.lconst 0, 1) := dw_at cX13_minor_k5 (p := 19) rfl (by decide +kernel)
theorem dmX13_minor_142 : decode cX13_minor 142 = .ok (.lcmp, 1) := dw_at cX13_minor_k5 (p := 20) rfl (by decide +kernel)
theorem dmX13_minor_143 : decode cX13_minor 143 = .ok (.ifCond .ne 9, 3) := dw_at cX13_minor_k5 (p := 21) rfl (by decide +kernel)
theorem dmX13_minor_146 : decode cX13_minor 146 = .ok (.iinc 8 1, 3) := dw_at cX13_minor_k6 (p := 0) rfl (by decide +kernel)
theorem dmX13_minor_149 : decode cX13_minor 149 = .ok (.goto (-27), 3) := dw_at cX13_minor_k6 (p := 3) rfl (by decide +kernel)
theorem dmX13_minor_152 : decode cX13_minor 152 = .ok (.iload 8, 2) := dw_at cX13_minor_k6 (p := 6) rfl (by decide +kernel)
theorem dmX13_minor_154 : decode cX13_minor 154 = .ok (.iload_n 3, 1) := dw_at cX13_minor_k6 (p := 8) rfl (by decide +kernel)
theorem dmX13_minor_155 : decode cX13_minor 155 = .ok (.if_icmp .ne 5, 3) := dw_at cX13_minor_k6 (p := 9) rfl (by decide +kernel)
theorem dmX13_minor_158 : decode cX13_minor 158 = .ok (.lconst 0, 1) := dw_at cX13_minor_k6 (p := 12) rfl (by decide +kernel)
theorem dmX13_minor_159 : decode cX13_minor 159 = .ok (.lreturn, 1) := dw_at cX13_minor_k6 (p := 13) rfl (by decide +kernel)
theorem dmX13_minor_160 : decode cX13_minor 160 = .ok (.iconst 0, 1) := dw_at cX13_minor_k6 (p := 14) rfl (by decide +kernel)
theorem dmX13_minor_161 : decode cX13_minor 161 = .ok (.istore 9, 2) := dw_at cX13_minor_k6 (p := 15) rfl (by decide +kernel)
theorem dmX13_minor_163 : decode cX13_minor 163 = .ok (.iload 9, 2) := dw_at cX13_minor_k6 (p := 17) rfl (by decide +kernel)
theorem dmX13_minor_165 : decode cX13_minor 165 = .ok (.iload_n 3, 1) := dw_at cX13_minor_k6 (p := 19) rfl (by decide +kernel)
theorem dmX13_minor_166 : decode cX13_minor 166 = .ok (.if_icmp .ge 65, 3) := dw_at cX13_minor_k6 (p := 20) rfl (by decide +kernel)
theorem dmX13_minor_169 : decode cX13_minor 169 = .ok (.aload_n 0, 1) := dw_at cX13_minor_k6 (p := 23) rfl (by decide +kernel)
theorem dmX13_minor_170 : decode cX13_minor 170 = .ok (.getfield 262, 3) := dw_at cX13_minor_k7 (p := 0) rfl (by decide +kernel)
theorem dmX13_minor_173 : decode cX13_minor 173 = .ok (.bipush 13, 2) := dw_at cX13_minor_k7 (p := 3) rfl (by decide +kernel)
theorem dmX13_minor_175 : decode cX13_minor 175 = .ok (.iload 8, 2) := dw_at cX13_minor_k7 (p := 5) rfl (by decide +kernel)
theorem dmX13_minor_177 : decode cX13_minor 177 = .ok (.imul, 1) := dw_at cX13_minor_k7 (p := 7) rfl (by decide +kernel)
theorem dmX13_minor_178 : decode cX13_minor 178 = .ok (.iload 9, 2) := dw_at cX13_minor_k7 (p := 8) rfl (by decide +kernel)
theorem dmX13_minor_180 : decode cX13_minor 180 = .ok (.iadd, 1) := dw_at cX13_minor_k7 (p := 10) rfl (by decide +kernel)
theorem dmX13_minor_181 : decode cX13_minor 181 = .ok (.laload, 1) := dw_at cX13_minor_k7 (p := 11) rfl (by decide +kernel)
theorem dmX13_minor_182 : decode cX13_minor 182 = .ok (.lstore 10, 2) := dw_at cX13_minor_k7 (p := 12) rfl (by decide +kernel)
theorem dmX13_minor_184 : decode cX13_minor 184 = .ok (.aload_n 0, 1) := dw_at cX13_minor_k7 (p := 14) rfl (by decide +kernel)
theorem dmX13_minor_185 : decode cX13_minor 185 = .ok (.getfield 262, 3) := dw_at cX13_minor_k7 (p := 15) rfl (by decide +kernel)
theorem dmX13_minor_188 : decode cX13_minor 188 = .ok (.bipush 13, 2) := dw_at cX13_minor_k7 (p := 18) rfl (by decide +kernel)
theorem dmX13_minor_190 : decode cX13_minor 190 = .ok (.iload 8, 2) := dw_at cX13_minor_k7 (p := 20) rfl (by decide +kernel)
theorem dmX13_minor_192 : decode cX13_minor 192 = .ok (.imul, 1) := dw_at cX13_minor_k7 (p := 22) rfl (by decide +kernel)
theorem dmX13_minor_193 : decode cX13_minor 193 = .ok (.iload 9, 2) := dw_at cX13_minor_k7 (p := 23) rfl (by decide +kernel)
theorem dmX13_minor_195 : decode cX13_minor 195 = .ok (.iadd, 1) := dw_at cX13_minor_k8 (p := 0) rfl (by decide +kernel)
theorem dmX13_minor_196 : decode cX13_minor 196 = .ok (.aload_n 0, 1) := dw_at cX13_minor_k8 (p := 1) rfl (by decide +kernel)
theorem dmX13_minor_197 : decode cX13_minor 197 = .ok (.getfield 262, 3) := dw_at cX13_minor_k8 (p := 2) rfl (by decide +kernel)
theorem dmX13_minor_200 : decode cX13_minor 200 = .ok (.bipush 13, 2) := dw_at cX13_minor_k8 (p := 5) rfl (by decide +kernel)
theorem dmX13_minor_202 : decode cX13_minor 202 = .ok (.iload 7, 2) := dw_at cX13_minor_k8 (p := 7) rfl (by decide +kernel)
theorem dmX13_minor_204 : decode cX13_minor 204 = .ok (.imul, 1) := dw_at cX13_minor_k8 (p := 9) rfl (by decide +kernel)
theorem dmX13_minor_205 : decode cX13_minor 205 = .ok (.iload 9, 2) := dw_at cX13_minor_k8 (p := 10) rfl (by decide +kernel)
theorem dmX13_minor_207 : decode cX13_minor 207 = .ok (.iadd, 1) := dw_at cX13_minor_k8 (p := 12) rfl (by decide +kernel)
theorem dmX13_minor_208 : decode cX13_minor 208 = .ok (.laload, 1) := dw_at cX13_minor_k8 (p := 13) rfl (by decide +kernel)
theorem dmX13_minor_209 : decode cX13_minor 209 = .ok (.lastore, 1) := dw_at cX13_minor_k8 (p := 14) rfl (by decide +kernel)
theorem dmX13_minor_210 : decode cX13_minor 210 = .ok (.aload_n 0, 1) := dw_at cX13_minor_k8 (p := 15) rfl (by decide +kernel)
theorem dmX13_minor_211 : decode cX13_minor 211 = .ok (.getfield 262, 3) := dw_at cX13_minor_k8 (p := 16) rfl (by decide +kernel)
theorem dmX13_minor_214 : decode cX13_minor 214 = .ok (.bipush 13, 2) := dw_at cX13_minor_k8 (p := 19) rfl (by decide +kernel)
theorem dmX13_minor_216 : decode cX13_minor 216 = .ok (.iload 7, 2) := dw_at cX13_minor_k8 (p := 21) rfl (by decide +kernel)
theorem dmX13_minor_218 : decode cX13_minor 218 = .ok (.imul, 1) := dw_at cX13_minor_k8 (p := 23) rfl (by decide +kernel)
theorem dmX13_minor_219 : decode cX13_minor 219 = .ok (.iload 9, 2) := dw_at cX13_minor_k9 (p := 0) rfl (by decide +kernel)
theorem dmX13_minor_221 : decode cX13_minor 221 = .ok (.iadd, 1) := dw_at cX13_minor_k9 (p := 2) rfl (by decide +kernel)
theorem dmX13_minor_222 : decode cX13_minor 222 = .ok (.lload 10, 2) := dw_at cX13_minor_k9 (p := 3) rfl (by decide +kernel)
theorem dmX13_minor_224 : decode cX13_minor 224 = .ok (.lastore, 1) := dw_at cX13_minor_k9 (p := 5) rfl (by decide +kernel)
theorem dmX13_minor_225 : decode cX13_minor 225 = .ok (.iinc 9 1, 3) := dw_at cX13_minor_k9 (p := 6) rfl (by decide +kernel)
theorem dmX13_minor_228 : decode cX13_minor 228 = .ok (.goto (-65), 3) := dw_at cX13_minor_k9 (p := 9) rfl (by decide +kernel)
theorem dmX13_minor_231 : decode cX13_minor 231 = .ok (.iload 7, 2) := dw_at cX13_minor_k9 (p := 12) rfl (by decide +kernel)
theorem dmX13_minor_233 : decode cX13_minor 233 = .ok (.iconst 1, 1) := dw_at cX13_minor_k9 (p := 14) rfl (by decide +kernel)
theorem dmX13_minor_234 : decode cX13_minor 234 = .ok (.iadd, 1) := dw_at cX13_minor_k9 (p := 15) rfl (by decide +kernel)
theorem dmX13_minor_235 : decode cX13_minor 235 = .ok (.istore 9, 2) := dw_at cX13_minor_k9 (p := 16) rfl (by decide +kernel)
theorem dmX13_minor_237 : decode cX13_minor 237 = .ok (.iload 9, 2) := dw_at cX13_minor_k9 (p := 18) rfl (by decide +kernel)
theorem dmX13_minor_239 : decode cX13_minor 239 = .ok (.iload_n 3, 1) := dw_at cX13_minor_k9 (p := 20) rfl (by decide +kernel)
theorem dmX13_minor_240 : decode cX13_minor 240 = .ok (.if_icmp .ge 98, 3) := dw_at cX13_minor_k9 (p := 21) rfl (by decide +kernel)
theorem dmX13_minor_243 : decode cX13_minor 243 = .ok (.iload 7, 2) := dw_at cX13_minor_k10 (p := 0) rfl (by decide +kernel)
theorem dmX13_minor_245 : decode cX13_minor 245 = .ok (.iconst 1, 1) := dw_at cX13_minor_k10 (p := 2) rfl (by decide +kernel)
theorem dmX13_minor_246 : decode cX13_minor 246 = .ok (.iadd, 1) := dw_at cX13_minor_k10 (p := 3) rfl (by decide +kernel)
theorem dmX13_minor_247 : decode cX13_minor 247 = .ok (.istore 10, 2) := dw_at cX13_minor_k10 (p := 4) rfl (by decide +kernel)
theorem dmX13_minor_249 : decode cX13_minor 249 = .ok (.iload 10, 2) := dw_at cX13_minor_k10 (p := 6) rfl (by decide +kernel)
theorem dmX13_minor_251 : decode cX13_minor 251 = .ok (.iload_n 3, 1) := dw_at cX13_minor_k10 (p := 8) rfl (by decide +kernel)
theorem dmX13_minor_252 : decode cX13_minor 252 = .ok (.if_icmp .ge 80, 3) := dw_at cX13_minor_k10 (p := 9) rfl (by decide +kernel)
theorem dmX13_minor_255 : decode cX13_minor 255 = .ok (.aload_n 0, 1) := dw_at cX13_minor_k10 (p := 12) rfl (by decide +kernel)
theorem dmX13_minor_256 : decode cX13_minor 256 = .ok (.getfield 262, 3) := dw_at cX13_minor_k10 (p := 13) rfl (by decide +kernel)
theorem dmX13_minor_259 : decode cX13_minor 259 = .ok (.bipush 13, 2) := dw_at cX13_minor_k10 (p := 16) rfl (by decide +kernel)
theorem dmX13_minor_261 : decode cX13_minor 261 = .ok (.iload 9, 2) := dw_at cX13_minor_k10 (p := 18) rfl (by decide +kernel)
theorem dmX13_minor_263 : decode cX13_minor 263 = .ok (.imul, 1) := dw_at cX13_minor_k10 (p := 20) rfl (by decide +kernel)
theorem dmX13_minor_264 : decode cX13_minor 264 = .ok (.iload 10, 2) := dw_at cX13_minor_k10 (p := 21) rfl (by decide +kernel)
theorem dmX13_minor_266 : decode cX13_minor 266 = .ok (.iadd, 1) := dw_at cX13_minor_k10 (p := 23) rfl (by decide +kernel)
theorem dmX13_minor_267 : decode cX13_minor 267 = .ok (.aload_n 0, 1) := dw_at cX13_minor_k11 (p := 0) rfl (by decide +kernel)
theorem dmX13_minor_268 : decode cX13_minor 268 = .ok (.getfield 262, 3) := dw_at cX13_minor_k11 (p := 1) rfl (by decide +kernel)
theorem dmX13_minor_271 : decode cX13_minor 271 = .ok (.bipush 13, 2) := dw_at cX13_minor_k11 (p := 4) rfl (by decide +kernel)
theorem dmX13_minor_273 : decode cX13_minor 273 = .ok (.iload 9, 2) := dw_at cX13_minor_k11 (p := 6) rfl (by decide +kernel)
theorem dmX13_minor_275 : decode cX13_minor 275 = .ok (.imul, 1) := dw_at cX13_minor_k11 (p := 8) rfl (by decide +kernel)
theorem dmX13_minor_276 : decode cX13_minor 276 = .ok (.iload 10, 2) := dw_at cX13_minor_k11 (p := 9) rfl (by decide +kernel)
theorem dmX13_minor_278 : decode cX13_minor 278 = .ok (.iadd, 1) := dw_at cX13_minor_k11 (p := 11) rfl (by decide +kernel)
theorem dmX13_minor_279 : decode cX13_minor 279 = .ok (.laload, 1) := dw_at cX13_minor_k11 (p := 12) rfl (by decide +kernel)
theorem dmX13_minor_280 : decode cX13_minor 280 = .ok (.aload_n 0, 1) := dw_at cX13_minor_k11 (p := 13) rfl (by decide +kernel)
theorem dmX13_minor_281 : decode cX13_minor 281 = .ok (.getfield 262, 3) := dw_at cX13_minor_k11 (p := 14) rfl (by decide +kernel)
theorem dmX13_minor_284 : decode cX13_minor 284 = .ok (.bipush 13, 2) := dw_at cX13_minor_k11 (p := 17) rfl (by decide +kernel)
theorem dmX13_minor_286 : decode cX13_minor 286 = .ok (.iload 7, 2) := dw_at cX13_minor_k11 (p := 19) rfl (by decide +kernel)
theorem dmX13_minor_288 : decode cX13_minor 288 = .ok (.imul, 1) := dw_at cX13_minor_k11 (p := 21) rfl (by decide +kernel)
theorem dmX13_minor_289 : decode cX13_minor 289 = .ok (.iload 7, 2) := dw_at cX13_minor_k11 (p := 22) rfl (by decide +kernel)
theorem dmX13_minor_291 : decode cX13_minor 291 = .ok (.iadd, 1) := dw_at cX13_minor_k12 (p := 0) rfl (by decide +kernel)
theorem dmX13_minor_292 : decode cX13_minor 292 = .ok (.laload, 1) := dw_at cX13_minor_k12 (p := 1) rfl (by decide +kernel)
theorem dmX13_minor_293 : decode cX13_minor 293 = .ok (.lmul, 1) := dw_at cX13_minor_k12 (p := 2) rfl (by decide +kernel)
theorem dmX13_minor_294 : decode cX13_minor 294 = .ok (.aload_n 0, 1) := dw_at cX13_minor_k12 (p := 3) rfl (by decide +kernel)
theorem dmX13_minor_295 : decode cX13_minor 295 = .ok (.getfield 262, 3) := dw_at cX13_minor_k12 (p := 4) rfl (by decide +kernel)
theorem dmX13_minor_298 : decode cX13_minor 298 = .ok (.bipush 13, 2) := dw_at cX13_minor_k12 (p := 7) rfl (by decide +kernel)
theorem dmX13_minor_300 : decode cX13_minor 300 = .ok (.iload 9, 2) := dw_at cX13_minor_k12 (p := 9) rfl (by decide +kernel)
theorem dmX13_minor_302 : decode cX13_minor 302 = .ok (.imul, 1) := dw_at cX13_minor_k12 (p := 11) rfl (by decide +kernel)
theorem dmX13_minor_303 : decode cX13_minor 303 = .ok (.iload 7, 2) := dw_at cX13_minor_k12 (p := 12) rfl (by decide +kernel)
theorem dmX13_minor_305 : decode cX13_minor 305 = .ok (.iadd, 1) := dw_at cX13_minor_k12 (p := 14) rfl (by decide +kernel)
theorem dmX13_minor_306 : decode cX13_minor 306 = .ok (.laload, 1) := dw_at cX13_minor_k12 (p := 15) rfl (by decide +kernel)
theorem dmX13_minor_307 : decode cX13_minor 307 = .ok (.aload_n 0, 1) := dw_at cX13_minor_k12 (p := 16) rfl (by decide +kernel)
theorem dmX13_minor_308 : decode cX13_minor 308 = .ok (.getfield 262, 3) := dw_at cX13_minor_k12 (p := 17) rfl (by decide +kernel)
theorem dmX13_minor_311 : decode cX13_minor 311 = .ok (.bipush 13, 2) := dw_at cX13_minor_k12 (p := 20) rfl (by decide +kernel)
theorem dmX13_minor_313 : decode cX13_minor 313 = .ok (.iload 7, 2) := dw_at cX13_minor_k12 (p := 22) rfl (by decide +kernel)
theorem dmX13_minor_315 : decode cX13_minor 315 = .ok (.imul, 1) := dw_at cX13_minor_k13 (p := 0) rfl (by decide +kernel)
theorem dmX13_minor_316 : decode cX13_minor 316 = .ok (.iload 10, 2) := dw_at cX13_minor_k13 (p := 1) rfl (by decide +kernel)
theorem dmX13_minor_318 : decode cX13_minor 318 = .ok (.iadd, 1) := dw_at cX13_minor_k13 (p := 3) rfl (by decide +kernel)
theorem dmX13_minor_319 : decode cX13_minor 319 = .ok (.laload, 1) := dw_at cX13_minor_k13 (p := 4) rfl (by decide +kernel)
theorem dmX13_minor_320 : decode cX13_minor 320 = .ok (.lmul, 1) := dw_at cX13_minor_k13 (p := 5) rfl (by decide +kernel)
theorem dmX13_minor_321 : decode cX13_minor 321 = .ok (.lsub, 1) := dw_at cX13_minor_k13 (p := 6) rfl (by decide +kernel)
theorem dmX13_minor_322 : decode cX13_minor 322 = .ok (.lload 5, 2) := dw_at cX13_minor_k13 (p := 7) rfl (by decide +kernel)
theorem dmX13_minor_324 : decode cX13_minor 324 = .ok (.ldiv, 1) := dw_at cX13_minor_k13 (p := 9) rfl (by decide +kernel)
theorem dmX13_minor_325 : decode cX13_minor 325 = .ok (.lastore, 1) := dw_at cX13_minor_k13 (p := 10) rfl (by decide +kernel)
theorem dmX13_minor_326 : decode cX13_minor 326 = .ok (.iinc 10 1, 3) := dw_at cX13_minor_k13 (p := 11) rfl (by decide +kernel)
theorem dmX13_minor_329 : decode cX13_minor 329 = .ok (.goto (-80), 3) := dw_at cX13_minor_k13 (p := 14) rfl (by decide +kernel)
theorem dmX13_minor_332 : decode cX13_minor 332 = .ok (.iinc 9 1, 3) := dw_at cX13_minor_k13 (p := 17) rfl (by decide +kernel)
theorem dmX13_minor_335 : decode cX13_minor 335 = .ok (.goto (-98), 3) := dw_at cX13_minor_k13 (p := 20) rfl (by decide +kernel)
theorem dmX13_minor_338 : decode cX13_minor 338 = .ok (.aload_n 0, 1) := dw_at cX13_minor_k13 (p := 23) rfl (by decide +kernel)
theorem dmX13_minor_339 : decode cX13_minor 339 = .ok (.getfield 262, 3) := dw_at cX13_minor_k14 (p := 0) rfl (by decide +kernel)
theorem dmX13_minor_342 : decode cX13_minor 342 = .ok (.bipush 14, 2) := dw_at cX13_minor_k14 (p := 3) rfl (by decide +kernel)
theorem dmX13_minor_344 : decode cX13_minor 344 = .ok (.iload 7, 2) := dw_at cX13_minor_k14 (p := 5) rfl (by decide +kernel)
theorem dmX13_minor_346 : decode cX13_minor 346 = .ok (.imul, 1) := dw_at cX13_minor_k14 (p := 7) rfl (by decide +kernel)
theorem dmX13_minor_347 : decode cX13_minor 347 = .ok (.laload, 1) := dw_at cX13_minor_k14 (p := 8) rfl (by decide +kernel)
theorem dmX13_minor_348 : decode cX13_minor 348 = .ok (.lstore 5, 2) := dw_at cX13_minor_k14 (p := 9) rfl (by decide +kernel)
theorem dmX13_minor_350 : decode cX13_minor 350 = .ok (.iinc 7 1, 3) := dw_at cX13_minor_k14 (p := 11) rfl (by decide +kernel)
theorem dmX13_minor_353 : decode cX13_minor 353 = .ok (.goto (-243), 3) := dw_at cX13_minor_k14 (p := 14) rfl (by decide +kernel)
theorem dmX13_minor_356 : decode cX13_minor 356 = .ok (.aload_n 0, 1) := dw_at cX13_minor_k14 (p := 17) rfl (by decide +kernel)
theorem dmX13_minor_357 : decode cX13_minor 357 = .ok (.getfield 262, 3) := dw_at cX13_minor_k14 (p := 18) rfl (by decide +kernel)
theorem dmX13_minor_360 : decode cX13_minor 360 = .ok (.bipush 14, 2) := dw_at cX13_minor_k14 (p := 21) rfl (by decide +kernel)
theorem dmX13_minor_362 : decode cX13_minor 362 = .ok (.iload_n 3, 1) := dw_at cX13_minor_k14 (p := 23) rfl (by decide +kernel)
theorem dmX13_minor_363 : decode cX13_minor 363 = .ok (.iconst 1, 1) := dw_at cX13_minor_k14 (p := 24) rfl (by decide +kernel)
theorem dmX13_minor_364 : decode cX13_minor 364 = .ok (.isub, 1) := dw_at cX13_minor_k14 (p := 25) rfl (by decide +kernel)
theorem dmX13_minor_365 : decode cX13_minor 365 = .ok (.imul, 1) := dw_at cX13_minor_k14 (p := 26) rfl (by decide +kernel)
theorem dmX13_minor_366 : decode cX13_minor 366 = .ok (.laload, 1) := dw_at cX13_minor_k14 (p := 27) rfl (by decide +kernel)
theorem dmX13_minor_367 : decode cX13_minor 367 = .ok (.lreturn, 1) := dw_at cX13_minor_k14 (p := 28) rfl (by decide +kernel)
def qm_X13_minor_0 (K : Nat) (go : Nat → Int32 → Int32 → Int32 → Int32 → Int32 → Int32 → Int32 → Int32 → Int32 → Int32 → Int64 → ow_MS → Option (Int64 × ow_MS)) (x1 : Int32) (x2 : Int32) (x3 : Int32) (x4 : Int32) (x5 : Int32) (x6 : Int32) (x7 : Int32) (x8 : Int32) (x9 : Int32) (x10 : Int32) (w5 : Int64) (z : ow_MS) : Option (Int64 × ow_MS) :=
 go 1 x1 x2 x3 0 0 0 0 0 0 0 0 z
def qm_X13_minor_1 (K : Nat) (go : Nat → Int32 → Int32 → Int32 → Int32 → Int32 → Int32 → Int32 → Int32 → Int32 → Int32 → Int64 → ow_MS → Option (Int64 × ow_MS)) (x1 : Int32) (x2 : Int32) (x3 : Int32) (x4 : Int32) (x5 : Int32) (x6 : Int32) (x7 : Int32) (x8 : Int32) (x9 : Int32) (x10 : Int32) (w5 : Int64) (z : ow_MS) : Option (Int64 × ow_MS) :=
 rdF z 70 fun v1 => (if v1 ≤ x5 then go 5 x1 x2 x3 x4 0 0 0 0 0 0 1 z
 else (if (((x1 : Int32) >>> ((x5 : Int32) &&& 31)) &&& 1) = 1 then go 2 x1 x2 x3 x4 x5 0 0 0 0 0 0 z
 else go 4 x1 x2 x3 x4 x5 0 0 0 0 0 0 z))
def qm_X13_minor_2 (K : Nat) (go : Nat → Int32 → Int32 → Int32 → Int32 → Int32 → Int32 → Int32 → Int32 → Int32 → Int32 → Int64 → ow_MS → Option (Int64 × ow_MS)) (x1 : Int32) (x2 : Int32) (x3 : Int32) (x4 : Int32) (x5 : Int32) (x6 : Int32) (x7 : Int32) (x8 : Int32) (x9 : Int32) (x10 : Int32) (w5 : Int64) (z : ow_MS) : Option (Int64 × ow_MS) :=
 rdF z 71 fun v2 => (if v2 ≤ x7 then go 4 x1 x2 x3 (x4 + 1) x5 0 0 0 0 0 0 z
 else (if (((x2 : Int32) >>> ((x7 : Int32) &&& 31)) &&& 1) = 1 then rdI mX z 68 x5 fun v3 => rdI mX z 69 x7 fun v4 => rdJ mX z 64 ((24 * v3) + v4) fun v5 => wrJ mX z 72 ((13 * x4) + x6) v5 fun z6 => go 3 x1 x2 x3 x4 x5 (x6 + 1) x7 0 0 0 0 z6
 else go 3 x1 x2 x3 x4 x5 x6 x7 0 0 0 0 z))
def qm_X13_minor_3 (K : Nat) (go : Nat → Int32 → Int32 → Int32 → Int32 → Int32 → Int32 → Int32 → Int32 → Int32 → Int32 → Int64 → ow_MS → Option (Int64 × ow_MS)) (x1 : Int32) (x2 : Int32) (x3 : Int32) (x4 : Int32) (x5 : Int32) (x6 : Int32) (x7 : Int32) (x8 : Int32) (x9 : Int32) (x10 : Int32) (w5 : Int64) (z : ow_MS) : Option (Int64 × ow_MS) :=
 go 2 x1 x2 x3 x4 x5 x6 (x7 + 1) 0 0 0 0 z
def qm_X13_minor_4 (K : Nat) (go : Nat → Int32 → Int32 → Int32 → Int32 → Int32 → Int32 → Int32 → Int32 → Int32 → Int32 → Int64 → ow_MS → Option (Int64 × ow_MS)) (x1 : Int32) (x2 : Int32) (x3 : Int32) (x4 : Int32) (x5 : Int32) (x6 : Int32) (x7 : Int32) (x8 : Int32) (x9 : Int32) (x10 : Int32) (w5 : Int64) (z : ow_MS) : Option (Int64 × ow_MS) :=
 go 1 x1 x2 x3 x4 (x5 + 1) 0 0 0 0 0 0 z
def qm_X13_minor_5 (K : Nat) (go : Nat → Int32 → Int32 → Int32 → Int32 → Int32 → Int32 → Int32 → Int32 → Int32 → Int32 → Int64 → ow_MS → Option (Int64 × ow_MS)) (x1 : Int32) (x2 : Int32) (x3 : Int32) (x4 : Int32) (x5 : Int32) (x6 : Int32) (x7 : Int32) (x8 : Int32) (x9 : Int32) (x10 : Int32) (w5 : Int64) (z : ow_MS) : Option (Int64 × ow_MS) :=
 (if x3 ≤ (x7 + 1) then rdJ mX z 72 (14 * (x3 - 1)) fun v7 => some (v7, z)
 else go 6 x1 x2 x3 x4 0 0 x7 x7 0 0 w5 z)
def qm_X13_minor_6 (K : Nat) (go : Nat → Int32 → Int32 → Int32 → Int32 → Int32 → Int32 → Int32 → Int32 → Int32 → Int32 → Int64 → ow_MS → Option (Int64 × ow_MS)) (x1 : Int32) (x2 : Int32) (x3 : Int32) (x4 : Int32) (x5 : Int32) (x6 : Int32) (x7 : Int32) (x8 : Int32) (x9 : Int32) (x10 : Int32) (w5 : Int64) (z : ow_MS) : Option (Int64 × ow_MS) :=
 (if x3 ≤ x8 then go 7 x1 x2 x3 x4 0 0 x7 x8 0 0 w5 z
 else rdJ mX z 72 ((13 * x8) + x7) fun v8 => (if (lg_cmp v8 0) = 0 then go 6 x1 x2 x3 x4 0 0 x7 (x8 + 1) 0 0 w5 z
 else go 7 x1 x2 x3 x4 0 0 x7 x8 0 0 w5 z))
def qm_X13_minor_7 (K : Nat) (go : Nat → Int32 → Int32 → Int32 → Int32 → Int32 → Int32 → Int32 → Int32 → Int32 → Int32 → Int64 → ow_MS → Option (Int64 × ow_MS)) (x1 : Int32) (x2 : Int32) (x3 : Int32) (x4 : Int32) (x5 : Int32) (x6 : Int32) (x7 : Int32) (x8 : Int32) (x9 : Int32) (x10 : Int32) (w5 : Int64) (z : ow_MS) : Option (Int64 × ow_MS) :=
 (if x8 = x3 then some (0, z)
 else go 8 x1 x2 x3 x4 0 0 x7 x8 0 0 w5 z)
def qm_X13_minor_8 (K : Nat) (go : Nat → Int32 → Int32 → Int32 → Int32 → Int32 → Int32 → Int32 → Int32 → Int32 → Int32 → Int64 → ow_MS → Option (Int64 × ow_MS)) (x1 : Int32) (x2 : Int32) (x3 : Int32) (x4 : Int32) (x5 : Int32) (x6 : Int32) (x7 : Int32) (x8 : Int32) (x9 : Int32) (x10 : Int32) (w5 : Int64) (z : ow_MS) : Option (Int64 × ow_MS) :=
 (if x3 ≤ x9 then go 9 x1 x2 x3 x4 0 0 x7 x8 (x7 + 1) 0 w5 z
 else rdJ mX z 72 ((13 * x8) + x9) fun v9 => rdJ mX z 72 ((13 * x7) + x9) fun v10 => wrJ mX z 72 ((13 * x8) + x9) v10 fun z11 => wrJ mX z11 72 ((13 * x7) + x9) v9 fun z12 => go 8 x1 x2 x3 x4 0 0 x7 x8 (x9 + 1) 0 w5 z12)
def qm_X13_minor_9 (K : Nat) (go : Nat → Int32 → Int32 → Int32 → Int32 → Int32 → Int32 → Int32 → Int32 → Int32 → Int32 → Int64 → ow_MS → Option (Int64 × ow_MS)) (x1 : Int32) (x2 : Int32) (x3 : Int32) (x4 : Int32) (x5 : Int32) (x6 : Int32) (x7 : Int32) (x8 : Int32) (x9 : Int32) (x10 : Int32) (w5 : Int64) (z : ow_MS) : Option (Int64 × ow_MS) :=
 (if x3 ≤ x9 then rdJ mX z 72 (14 * x7) fun v13 => go 5 x1 x2 x3 x4 0 0 (x7 + 1) 0 0 0 v13 z
 else go 10 x1 x2 x3 x4 0 0 x7 x8 x9 (x7 + 1) w5 z)
def qm_X13_minor_10 (K : Nat) (go : Nat → Int32 → Int32 → Int32 → Int32 → Int32 → Int32 → Int32 → Int32 → Int32 → Int32 → Int64 → ow_MS → Option (Int64 × ow_MS)) (x1 : Int32) (x2 : Int32) (x3 : Int32) (x4 : Int32) (x5 : Int32) (x6 : Int32) (x7 : Int32) (x8 : Int32) (x9 : Int32) (x10 : Int32) (w5 : Int64) (z : ow_MS) : Option (Int64 × ow_MS) :=
 (if x3 ≤ x10 then go 9 x1 x2 x3 x4 0 0 x7 x8 (x9 + 1) 0 w5 z
 else rdJ mX z 72 ((13 * x9) + x10) fun v14 => rdJ mX z 72 ((13 * x7) + x7) fun v15 => rdJ mX z 72 ((13 * x9) + x7) fun v16 => rdJ mX z 72 ((13 * x7) + x10) fun v17 => nzJ w5 (wrJ mX z 72 ((13 * x9) + x10) (((v14 * v15) - (v16 * v17)) / w5) fun z18 => go 10 x1 x2 x3 x4 0 0 x7 x8 x9 (x10 + 1) w5 z18))
def qb_X13_minor (K : Nat) (go : Nat → Int32 → Int32 → Int32 → Int32 → Int32 → Int32 → Int32 → Int32 → Int32 → Int32 → Int64 → ow_MS → Option (Int64 × ow_MS)) (L : Nat) (x1 : Int32) (x2 : Int32) (x3 : Int32) (x4 : Int32) (x5 : Int32) (x6 : Int32) (x7 : Int32) (x8 : Int32) (x9 : Int32) (x10 : Int32) (w5 : Int64) (z : ow_MS) : Option (Int64 × ow_MS) := match L with
  | 0 => qm_X13_minor_0 K go x1 x2 x3 x4 x5 x6 x7 x8 x9 x10 w5 z
  | 1 => qm_X13_minor_1 K go x1 x2 x3 x4 x5 x6 x7 x8 x9 x10 w5 z
  | 2 => qm_X13_minor_2 K go x1 x2 x3 x4 x5 x6 x7 x8 x9 x10 w5 z
  | 3 => qm_X13_minor_3 K go x1 x2 x3 x4 x5 x6 x7 x8 x9 x10 w5 z
  | 4 => qm_X13_minor_4 K go x1 x2 x3 x4 x5 x6 x7 x8 x9 x10 w5 z
  | 5 => qm_X13_minor_5 K go x1 x2 x3 x4 x5 x6 x7 x8 x9 x10 w5 z
  | 6 => qm_X13_minor_6 K go x1 x2 x3 x4 x5 x6 x7 x8 x9 x10 w5 z
  | 7 => qm_X13_minor_7 K go x1 x2 x3 x4 x5 x6 x7 x8 x9 x10 w5 z
  | 8 => qm_X13_minor_8 K go x1 x2 x3 x4 x5 x6 x7 x8 x9 x10 w5 z
  | 9 => qm_X13_minor_9 K go x1 x2 x3 x4 x5 x6 x7 x8 x9 x10 w5 z
  | 10 => qm_X13_minor_10 K go x1 x2 x3 x4 x5 x6 x7 x8 x9 x10 w5 z
  | _ => none
def q_X13_minor (K : Nat) : Nat → Nat → Int32 → Int32 → Int32 → Int32 → Int32 → Int32 → Int32 → Int32 → Int32 → Int32 → Int64 → ow_MS → Option (Int64 × ow_MS)
  | 0 => fun _ _ _ _ _ _ _ _ _ _ _ _ _ => none
  | k + 1 => qb_X13_minor K (q_X13_minor K k)
def qe_X13_minor (K : Nat) (x1 : Int32) (x2 : Int32) (x3 : Int32) (z : ow_MS) : Option (Int64 × ow_MS) := q_X13_minor K K 0 x1 x2 x3 0 0 0 0 0 0 0 0 z
abbrev wm_X13_minor : List Cond := .code yX13_minor cX13_minor 12 (some .long) :: wM
theorem cd_X13_minor : yX13_minor.cls = RX13 ∧ yX13_minor.cls ≠ "java/lang/invoke/MethodHandle" ∧ yX13_minor.cls ≠ "java/lang/invoke/VarHandle" ∧ (parseMethodDescriptor yX13_minor.desc).map (fun d => d.parameters.length) = some 3 := by decide +kernel
set_option maxHeartbeats 4000000 in
set_option maxRecDepth 100000 in
theorem km_X13_minor (l : Launch) (D : va_G) (q : ow_Q5) (u : Nat → Nat) (hU : tw_inj mX u) (K : Nat) (x1 : Int32) (x2 : Int32) (x3 : Int32)  (z z1 : ow_MS) (r : Int64) (hq : qe_X13_minor K x1 x2 x3 z = some (r, z1)) : Met l yX13_minor wm_X13_minor ({ frames := 0, cells := 0, slots := 0, locals := 0 } : Room) (va_Pc [.ref (u 0), .int x1, .int x2, .int x3] (mw_pre D q u z)) (va_Ql (fun x (_ : Unit) => x = r) (fun _ t => va_P D vwCl (tw mX q u z1) t.heap) (tw_A mX u)) 0 0 (tw_A mX u) := by
  refine Met.ofW (cc := cX13_minor) (maxL := 12) (ret := (some .long)) (by decide) rfl ?_
  intro p e s m args below meth c s₁ B hml hv
  obtain ⟨rfl, hP, hK, hN⟩ := hv
  have hx := B.exec
  have hb := B.bytes
  have hr := B.returns
  have hts := atoms_spec (ws := wm_X13_minor) B.pre
  have hT : ∀ w ∈ wM, w.before ([.ref (u 0), .int x1, .int x2, .int x3] : List Value).toArray s = true := fun w h => hts w (List.mem_cons_of_mem _ h)
  have hown : s.vm.findClass RX13 = some m.cls := findClass_of_methodNamed B.named
  have hlocks := B.notSynchronized
  have hM : tw_M D vwCl mX q s.heap u z s.heap [] := ⟨hP, va_S.rf⟩
  have hl := lv_entry ([.ref (u 0), .int x1, .int x2, .int x3]) (n := 12) (Nat.le_of_ble_eq_true rfl)
  rw [lg_entry_eq]
  generalize (lg_sl ([.ref (u 0), .int x1, .int x2, .int x3]) ++ List.replicate (12 - (lg_sl ([.ref (u 0), .int x1, .int x2, .int x3])).length) Slot.unset).toArray = ls at hl ⊢
  have hl : lv_has ls 12 [(0, .ref (u 0)), (1, .int x1), (2, .int x2), (3, .int x3)] := hl
  refine ow_named (fun QQ hQQ => ?_)
  generalize ([.ref (u 0), .int x1, .int x2, .int x3] : List Value).toArray = args at hts hT hQQ ⊢
  have key : ∀ k : Nat, (∀ (x1 : Int32) (x2 : Int32) (x3 : Int32) (x4 : Int32) (x5 : Int32) (x6 : Int32) (x7 : Int32) (x8 : Int32) (x9 : Int32) (x10 : Int32) (w5 : Int64) (z : ow_MS) (H : Heap) (locs : List Loc) (ls : Array Slot), tw_M D vwCl mX q s.heap u z H locs → lv_has ls 12 [(0, .ref (u 0)), (1, .int x1), (2, .int x2), (3, .int x3)] → q_X13_minor K k 0 x1 x2 x3 x4 x5 x6 x7 x8 x9 x10 w5 z = some (r, z1) → W p l e ({ frames := 0, cells := 0, slots := 0, locals := 0 } : Room) s m args below meth c H locs 0 0 QQ (F0 m 0 ls [])) ∧ (∀ (x1 : Int32) (x2 : Int32) (x3 : Int32) (x4 : Int32) (x5 : Int32) (x6 : Int32) (x7 : Int32) (x8 : Int32) (x9 : Int32) (x10 : Int32) (w5 : Int64) (z : ow_MS) (H : Heap) (locs : List Loc) (ls : Array Slot), tw_M D vwCl mX q s.heap u z H locs → lv_has ls 12 [(0, .ref (u 0)), (1, .int x1), (2, .int x2), (3, .int x3), (4, .int x4), (5, .int x5)] → q_X13_minor K k 1 x1 x2 x3 x4 x5 x6 x7 x8 x9 x10 w5 z = some (r, z1) → W p l e ({ frames := 0, cells := 0, slots := 0, locals := 0 } : Room) s m args below meth c H locs 0 0 QQ (F0 m 6 ls [])) ∧ (∀ (x1 : Int32) (x2 : Int32) (x3 : Int32) (x4 : Int32) (x5 : Int32) (x6 : Int32) (x7 : Int32) (x8 : Int32) (x9 : Int32) (x10 : Int32) (w5 : Int64) (z : ow_MS) (H : Heap) (locs : List Loc) (ls : Array Slot), tw_M D vwCl mX q s.heap u z H locs → lv_has ls 12 [(0, .ref (u 0)), (1, .int x1), (2, .int x2), (3, .int x3), (4, .int x4), (5, .int x5), (6, .int x6), (7, .int x7)] → q_X13_minor K k 2 x1 x2 x3 x4 x5 x6 x7 x8 x9 x10 w5 z = some (r, z1) → W p l e ({ frames := 0, cells := 0, slots := 0, locals := 0 } : Room) s m args below meth c H locs 0 0 QQ (F0 m 31 ls [])) ∧ (∀ (x1 : Int32) (x2 : Int32) (x3 : Int32) (x4 : Int32) (x5 : Int32) (x6 : Int32) (x7 : Int32) (x8 : Int32) (x9 : Int32) (x10 : Int32) (w5 : Int64) (z : ow_MS) (H : Heap) (locs : List Loc) (ls : Array Slot), tw_M D vwCl mX q s.heap u z H locs → lv_has ls 12 [(0, .ref (u 0)), (1, .int x1), (2, .int x2), (3, .int x3), (4, .int x4), (5, .int x5), (6, .int x6), (7, .int x7)] → q_X13_minor K k 3 x1 x2 x3 x4 x5 x6 x7 x8 x9 x10 w5 z = some (r, z1) → W p l e ({ frames := 0, cells := 0, slots := 0, locals := 0 } : Room) s m args below meth c H locs 0 0 QQ (F0 m 89 ls [])) ∧ (∀ (x1 : Int32) (x2 : Int32) (x3 : Int32) (x4 : Int32) (x5 : Int32) (x6 : Int32) (x7 : Int32) (x8 : Int32) (x9 : Int32) (x10 : Int32) (w5 : Int64) (z : ow_MS) (H : Heap) (locs : List Loc) (ls : Array Slot), tw_M D vwCl mX q s.heap u z H locs → lv_has ls 12 [(0, .ref (u 0)), (1, .int x1), (2, .int x2), (3, .int x3), (4, .int x4), (5, .int x5)] → q_X13_minor K k 4 x1 x2 x3 x4 x5 x6 x7 x8 x9 x10 w5 z = some (r, z1) → W p l e ({ frames := 0, cells := 0, slots := 0, locals := 0 } : Room) s m args below meth c H locs 0 0 QQ (F0 m 98 ls [])) ∧ (∀ (x1 : Int32) (x2 : Int32) (x3 : Int32) (x4 : Int32) (x5 : Int32) (x6 : Int32) (x7 : Int32) (x8 : Int32) (x9 : Int32) (x10 : Int32) (w5 : Int64) (z : ow_MS) (H : Heap) (locs : List Loc) (ls : Array Slot), tw_M D vwCl mX q s.heap u z H locs → lv_has ls 12 [(0, .ref (u 0)), (1, .int x1), (2, .int x2), (3, .int x3), (4, .int x4), (5, .long w5), (7, .int x7)] → q_X13_minor K k 5 x1 x2 x3 x4 x5 x6 x7 x8 x9 x10 w5 z = some (r, z1) → W p l e ({ frames := 0, cells := 0, slots := 0, locals := 0 } : Room) s m args below meth c H locs 0 0 QQ (F0 m 110 ls [])) ∧ (∀ (x1 : Int32) (x2 : Int32) (x3 : Int32) (x4 : Int32) (x5 : Int32) (x6 : Int32) (x7 : Int32) (x8 : Int32) (x9 : Int32) (x10 : Int32) (w5 : Int64) (z : ow_MS) (H : Heap) (locs : List Loc) (ls : Array Slot), tw_M D vwCl mX q s.heap u z H locs → lv_has ls 12 [(0, .ref (u 0)), (1, .int x1), (2, .int x2), (3, .int x3), (4, .int x4), (5, .long w5), (7, .int x7), (8, .int x8)] → q_X13_minor K k 6 x1 x2 x3 x4 x5 x6 x7 x8 x9 x10 w5 z = some (r, z1) → W p l e ({ frames := 0, cells := 0, slots := 0, locals := 0 } : Room) s m args below meth c H locs 0 0 QQ (F0 m 122 ls [])) ∧ (∀ (x1 : Int32) (x2 : Int32) (x3 : Int32) (x4 : Int32) (x5 : Int32) (x6 : Int32) (x7 : Int32) (x8 : Int32) (x9 : Int32) (x10 : Int32) (w5 : Int64) (z : ow_MS) (H : Heap) (locs : List Loc) (ls : Array Slot), tw_M D vwCl mX q s.heap u z H locs → lv_has ls 12 [(0, .ref (u 0)), (1, .int x1), (2, .int x2), (3, .int x3), (4, .int x4), (5, .long w5), (7, .int x7), (8, .int x8)] → q_X13_minor K k 7 x1 x2 x3 x4 x5 x6 x7 x8 x9 x10 w5 z = some (r, z1) → W p l e ({ frames := 0, cells := 0, slots := 0, locals := 0 } : Room) s m args below meth c H locs 0 0 QQ (F0 m 152 ls [])) ∧ (∀ (x1 : Int32) (x2 : Int32) (x3 : Int32) (x4 : Int32) (x5 : Int32) (x6 : Int32) (x7 : Int32) (x8 : Int32) (x9 : Int32) (x10 : Int32) (w5 : Int64) (z : ow_MS) (H : Heap) (locs : List Loc) (ls : Array Slot), tw_M D vwCl mX q s.heap u z H locs → lv_has ls 12 [(0, .ref (u 0)), (1, .int x1), (2, .int x2), (3, .int x3), (4, .int x4), (5, .long w5), (7, .int x7), (8, .int x8), (9, .int x9)] → q_X13_minor K k 8 x1 x2 x3 x4 x5 x6 x7 x8 x9 x10 w5 z = some (r, z1) → W p l e ({ frames := 0, cells := 0, slots := 0, locals := 0 } : Room) s m args below meth c H locs 0 0 QQ (F0 m 163 ls [])) ∧ (∀ (x1 : Int32) (x2 : Int32) (x3 : Int32) (x4 : Int32) (x5 : Int32) (x6 : Int32) (x7 : Int32) (x8 : Int32) (x9 : Int32) (x10 : Int32) (w5 : Int64) (z : ow_MS) (H : Heap) (locs : List Loc) (ls : Array Slot), tw_M D vwCl mX q s.heap u z H locs → lv_has ls 12 [(0, .ref (u 0)), (1, .int x1), (2, .int x2), (3, .int x3), (4, .int x4), (5, .long w5), (7, .int x7), (8, .int x8), (9, .int x9)] → q_X13_minor K k 9 x1 x2 x3 x4 x5 x6 x7 x8 x9 x10 w5 z = some (r, z1) → W p l e ({ frames := 0, cells := 0, slots := 0, locals := 0 } : Room) s m args below meth c H locs 0 0 QQ (F0 m 237 ls [])) ∧ (∀ (x1 : Int32) (x2 : Int32) (x3 : Int32) (x4 : Int32) (x5 : Int32) (x6 : Int32) (x7 : Int32) (x8 : Int32) (x9 : Int32) (x10 : Int32) (w5 : Int64) (z : ow_MS) (H : Heap) (locs : List Loc) (ls : Array Slot), tw_M D vwCl mX q s.heap u z H locs → lv_has ls 12 [(0, .ref (u 0)), (1, .int x1), (2, .int x2), (3, .int x3), (4, .int x4), (5, .long w5), (7, .int x7), (8, .int x8), (9, .int x9), (10, .int x10)] → q_X13_minor K k 10 x1 x2 x3 x4 x5 x6 x7 x8 x9 x10 w5 z = some (r, z1) → W p l e ({ frames := 0, cells := 0, slots := 0, locals := 0 } : Room) s m args below meth c H locs 0 0 QQ (F0 m 249 ls [])) := by
    intro k
    induction k with
    | zero => exact ⟨fun _ _ _ _ _ _ _ _ _ _ _ _ _ _ _  _ _ hq => tw_no hq, fun _ _ _ _ _ _ _ _ _ _ _ _ _ _ _  _ _ hq => tw_no hq, fun _ _ _ _ _ _ _ _ _ _ _ _ _ _ _  _ _ hq => tw_no hq, fun _ _ _ _ _ _ _ _ _ _ _ _ _ _ _  _ _ hq => tw_no hq, fun _ _ _ _ _ _ _ _ _ _ _ _ _ _ _  _ _ hq => tw_no hq, fun _ _ _ _ _ _ _ _ _ _ _ _ _ _ _  _ _ hq => tw_no hq, fun _ _ _ _ _ _ _ _ _ _ _ _ _ _ _  _ _ hq => tw_no hq, fun _ _ _ _ _ _ _ _ _ _ _ _ _ _ _  _ _ hq => tw_no hq, fun _ _ _ _ _ _ _ _ _ _ _ _ _ _ _  _ _ hq => tw_no hq, fun _ _ _ _ _ _ _ _ _ _ _ _ _ _ _  _ _ hq => tw_no hq, fun _ _ _ _ _ _ _ _ _ _ _ _ _ _ _  _ _ hq => tw_no hq⟩
    | succ k ih =>
      obtain ⟨ih_0, ih_1, ih_2, ih_3, ih_4, ih_5, ih_6, ih_7, ih_8, ih_9, ih_10⟩ := ih
      refine ⟨?_, ?_, ?_, ?_, ?_, ?_, ?_, ?_, ?_, ?_, ?_⟩
      · intro x1 x2 x3 x4 x5 x6 x7 x8 x9 x10 w5 z H locs ls  hM hl hq
        have hq : qm_X13_minor_0 K (q_X13_minor K k) x1 x2 x3 x4 x5 x6 x7 x8 x9 x10 w5 z = some (r, z1) := hq
        unfold qm_X13_minor_0 at hq
        refine lv_iconst (v := 0) hx hb dmX13_minor_0 (by decide) ?_
        refine lv_istore (lv' := [(4, .int 0), (0, .ref (u 0)), (1, .int x1), (2, .int x2), (3, .int x3)]) hx hb dmX13_minor_1 hl (by decide) rfl (fun ls hl => ?_)
        refine lv_iconst (v := 0) hx hb dmX13_minor_3 (by decide) ?_
        refine lv_istore (lv' := [(5, .int 0), (4, .int 0), (0, .ref (u 0)), (1, .int x1), (2, .int x2), (3, .int x3)]) hx hb dmX13_minor_4 hl (by decide) rfl (fun ls hl => ?_)
        exact ih_1 x1 x2 x3 0 0 0 0 0 0 0 0 z H locs ls hM (lv_sub hl [2, 3, 4, 5, 1, 0] rfl) hq
      · intro x1 x2 x3 x4 x5 x6 x7 x8 x9 x10 w5 z H locs ls  hM hl hq
        have hq : qm_X13_minor_1 K (q_X13_minor K k) x1 x2 x3 x4 x5 x6 x7 x8 x9 x10 w5 z = some (r, z1) := hq
        unfold qm_X13_minor_1 at hq
        refine lv_iload hx hb dmX13_minor_6 (lv_at hl 5 rfl) ?_
        refine lv_aload_n hx hb dmX13_minor_8 rfl (lv_at hl 0 rfl) ?_
        refine mg13_651 hx hb hT hown hK hM hq dmX13_minor_9 (fun v1 hq => ?_)
        refine lv_icmp_ge (tgt := 104) hx hb dmX13_minor_12 (by decide) (fun hc => ?_) (fun hc => ?_)
        · have hq := tw_it hq hc
          refine lv_lconst (v := 1) hx hb dmX13_minor_104 rfl ?_
          refine lv_lstore (lv' := [(5, .long 1), (0, .ref (u 0)), (1, .int x1), (2, .int x2), (3, .int x3), (4, .int x4)]) hx hb dmX13_minor_105 hl (by decide) rfl (fun ls hl => ?_)
          refine lv_iconst (v := 0) hx hb dmX13_minor_107 (by decide) ?_
          refine lv_istore (lv' := [(7, .int 0), (5, .long 1), (0, .ref (u 0)), (1, .int x1), (2, .int x2), (3, .int x3), (4, .int x4)]) hx hb dmX13_minor_108 hl (by decide) rfl (fun ls hl => ?_)
          exact ih_5 x1 x2 x3 x4 0 0 0 0 0 0 1 z H locs ls hM (lv_sub hl [2, 3, 4, 5, 6, 1, 0] rfl) hq
        · have hq := tw_if hq hc
          refine lv_iload_n hx hb dmX13_minor_15 rfl (lv_at hl 1 rfl) ?_
          refine lv_iload hx hb dmX13_minor_16 (lv_at hl 5 rfl) ?_
          refine lv_ishr hx hb dmX13_minor_18 ?_
          refine lv_iconst (v := 1) hx hb dmX13_minor_19 (by decide) ?_
          refine lv_iand hx hb dmX13_minor_20 ?_
          refine lv_iconst (v := 1) hx hb dmX13_minor_21 (by decide) ?_
          refine lv_icmp_ne (tgt := 98) hx hb dmX13_minor_22 (by decide) (fun hc => ?_) (fun hc => ?_)
          · have hq := tw_if hq hc
            exact ih_4 x1 x2 x3 x4 x5 0 0 0 0 0 0 z H locs ls hM (lv_sub hl [0, 1, 2, 3, 4, 5] rfl) hq
          · have hq := tw_it hq hc
            refine lv_iconst (v := 0) hx hb dmX13_minor_25 (by decide) ?_
            refine lv_istore (lv' := [(6, .int 0), (0, .ref (u 0)), (1, .int x1), (2, .int x2), (3, .int x3), (4, .int x4), (5, .int x5)]) hx hb dmX13_minor_26 hl (by decide) rfl (fun ls hl => ?_)
            refine lv_iconst (v := 0) hx hb dmX13_minor_28 (by decide) ?_
            refine lv_istore (lv' := [(7, .int 0), (6, .int 0), (0, .ref (u 0)), (1, .int x1), (2, .int x2), (3, .int x3), (4, .int x4), (5, .int x5)]) hx hb dmX13_minor_29 hl (by decide) rfl (fun ls hl => ?_)
            exact ih_2 x1 x2 x3 x4 x5 0 0 0 0 0 0 z H locs ls hM (lv_sub hl [2, 3, 4, 5, 6, 7, 1, 0] rfl) hq
      · intro x1 x2 x3 x4 x5 x6 x7 x8 x9 x10 w5 z H locs ls  hM hl hq
        have hq : qm_X13_minor_2 K (q_X13_minor K k) x1 x2 x3 x4 x5 x6 x7 x8 x9 x10 w5 z = some (r, z1) := hq
        unfold qm_X13_minor_2 at hq
        refine lv_iload hx hb dmX13_minor_31 (lv_at hl 7 rfl) ?_
        refine lv_aload_n hx hb dmX13_minor_33 rfl (lv_at hl 0 rfl) ?_
        refine mg13_654 hx hb hT hown hK hM hq dmX13_minor_34 (fun v2 hq => ?_)
        refine lv_icmp_ge (tgt := 95) hx hb dmX13_minor_37 (by decide) (fun hc => ?_) (fun hc => ?_)
        · have hq := tw_it hq hc
          refine lv_iinc (v := (x4 + 1)) (lv' := [(4, .int (x4 + 1)), (0, .ref (u 0)), (1, .int x1), (2, .int x2), (3, .int x3), (5, .int x5), (6, .int x6), (7, .int x7)]) hx hb dmX13_minor_95 hl (k := 4) rfl rfl (by decide) rfl (fun ls hl => ?_)
          exact ih_4 x1 x2 x3 (x4 + 1) x5 0 0 0 0 0 0 z H locs ls hM (lv_sub hl [1, 2, 3, 4, 0, 5] rfl) hq
        · have hq := tw_if hq hc
          refine lv_iload_n hx hb dmX13_minor_40 rfl (lv_at hl 2 rfl) ?_
          refine lv_iload hx hb dmX13_minor_41 (lv_at hl 7 rfl) ?_
          refine lv_ishr hx hb dmX13_minor_43 ?_
          refine lv_iconst (v := 1) hx hb dmX13_minor_44 (by decide) ?_
          refine lv_iand hx hb dmX13_minor_45 ?_
          refine lv_iconst (v := 1) hx hb dmX13_minor_46 (by decide) ?_
          refine lv_icmp_ne (tgt := 89) hx hb dmX13_minor_47 (by decide) (fun hc => ?_) (fun hc => ?_)
          · have hq := tw_if hq hc
            exact ih_3 x1 x2 x3 x4 x5 x6 x7 0 0 0 0 z H locs ls hM (lv_sub hl [0, 1, 2, 3, 4, 5, 6, 7] rfl) hq
          · have hq := tw_it hq hc
            refine lv_aload_n hx hb dmX13_minor_50 rfl (lv_at hl 0 rfl) ?_
            refine mg13_262 hx hb hT hown hK hM dmX13_minor_51 ?_
            refine lv_bipush (v := 13) hx hb dmX13_minor_54 (by decide) ?_
            refine lv_iload hx hb dmX13_minor_56 (lv_at hl 4 rfl) ?_
            refine lv_imul hx hb dmX13_minor_58 ?_
            refine lv_iload hx hb dmX13_minor_59 (lv_at hl 6 rfl) ?_
            refine lv_iadd hx hb dmX13_minor_61 ?_
            refine lv_aload_n hx hb dmX13_minor_62 rfl (lv_at hl 0 rfl) ?_
            refine mg13_247 hx hb hT hown hK hM dmX13_minor_63 ?_
            refine lv_bipush (v := 24) hx hb dmX13_minor_66 (by decide) ?_
            refine lv_aload_n hx hb dmX13_minor_68 rfl (lv_at hl 0 rfl) ?_
            refine mg13_256 hx hb hT hown hK hM dmX13_minor_69 ?_
            refine lv_iload hx hb dmX13_minor_72 (lv_at hl 5 rfl) ?_
            refine tw_iald mX_ok hx hb hK hM mr_68 hq dmX13_minor_74 (fun v3 hq => ?_)
            refine lv_imul hx hb dmX13_minor_75 ?_
            refine lv_aload_n hx hb dmX13_minor_76 rfl (lv_at hl 0 rfl) ?_
            refine mg13_259 hx hb hT hown hK hM dmX13_minor_77 ?_
            refine lv_iload hx hb dmX13_minor_80 (lv_at hl 7 rfl) ?_
            refine tw_iald mX_ok hx hb hK hM mr_69 hq dmX13_minor_82 (fun v4 hq => ?_)
            refine lv_iadd hx hb dmX13_minor_83 ?_
            refine tw_lald mX_ok hx hb hK hM mr_64 hq dmX13_minor_84 (fun v5 hq => ?_)
            refine tw_last mX_ok hU hx hb hK hM mr_72 hq dmX13_minor_85 (fun z6 H locs hM hq => ?_)
            refine lv_iinc (v := (x6 + 1)) (lv' := [(6, .int (x6 + 1)), (0, .ref (u 0)), (1, .int x1), (2, .int x2), (3, .int x3), (4, .int x4), (5, .int x5), (7, .int x7)]) hx hb dmX13_minor_86 hl (k := 6) rfl rfl (by decide) rfl (fun ls hl => ?_)
            exact ih_3 x1 x2 x3 x4 x5 (x6 + 1) x7 0 0 0 0 z6 H locs ls hM (lv_sub hl [1, 2, 3, 4, 5, 6, 0, 7] rfl) hq
      · intro x1 x2 x3 x4 x5 x6 x7 x8 x9 x10 w5 z H locs ls  hM hl hq
        have hq : qm_X13_minor_3 K (q_X13_minor K k) x1 x2 x3 x4 x5 x6 x7 x8 x9 x10 w5 z = some (r, z1) := hq
        unfold qm_X13_minor_3 at hq
        refine lv_iinc (v := (x7 + 1)) (lv' := [(7, .int (x7 + 1)), (0, .ref (u 0)), (1, .int x1), (2, .int x2), (3, .int x3), (4, .int x4), (5, .int x5), (6, .int x6)]) hx hb dmX13_minor_89 hl (k := 7) rfl rfl (by decide) rfl (fun ls hl => ?_)
        refine lv_goto (tgt := 31) hx hb dmX13_minor_92 (by decide) ?_
        exact ih_2 x1 x2 x3 x4 x5 x6 (x7 + 1) 0 0 0 0 z H locs ls hM (lv_sub hl [1, 2, 3, 4, 5, 6, 7, 0] rfl) hq
      · intro x1 x2 x3 x4 x5 x6 x7 x8 x9 x10 w5 z H locs ls  hM hl hq
        have hq : qm_X13_minor_4 K (q_X13_minor K k) x1 x2 x3 x4 x5 x6 x7 x8 x9 x10 w5 z = some (r, z1) := hq
        unfold qm_X13_minor_4 at hq
        refine lv_iinc (v := (x5 + 1)) (lv' := [(5, .int (x5 + 1)), (0, .ref (u 0)), (1, .int x1), (2, .int x2), (3, .int x3), (4, .int x4)]) hx hb dmX13_minor_98 hl (k := 5) rfl rfl (by decide) rfl (fun ls hl => ?_)
        refine lv_goto (tgt := 6) hx hb dmX13_minor_101 (by decide) ?_
        exact ih_1 x1 x2 x3 x4 (x5 + 1) 0 0 0 0 0 0 z H locs ls hM (lv_sub hl [1, 2, 3, 4, 5, 0] rfl) hq
      · intro x1 x2 x3 x4 x5 x6 x7 x8 x9 x10 w5 z H locs ls  hM hl hq
        have hq : qm_X13_minor_5 K (q_X13_minor K k) x1 x2 x3 x4 x5 x6 x7 x8 x9 x10 w5 z = some (r, z1) := hq
        unfold qm_X13_minor_5 at hq
        refine lv_iload hx hb dmX13_minor_110 (lv_at hl 6 rfl) ?_
        refine lv_iconst (v := 1) hx hb dmX13_minor_112 (by decide) ?_
        refine lv_iadd hx hb dmX13_minor_113 ?_
        refine lv_iload_n hx hb dmX13_minor_114 rfl (lv_at hl 3 rfl) ?_
        refine lv_icmp_ge (tgt := 356) hx hb dmX13_minor_115 (by decide) (fun hc => ?_) (fun hc => ?_)
        · have hq := tw_it hq hc
          refine lv_aload_n hx hb dmX13_minor_356 rfl (lv_at hl 0 rfl) ?_
          refine mg13_262 hx hb hT hown hK hM dmX13_minor_357 ?_
          refine lv_bipush (v := 14) hx hb dmX13_minor_360 (by decide) ?_
          refine lv_iload_n hx hb dmX13_minor_362 rfl (lv_at hl 3 rfl) ?_
          refine lv_iconst (v := 1) hx hb dmX13_minor_363 (by decide) ?_
          refine lv_isub hx hb dmX13_minor_364 ?_
          refine lv_imul hx hb dmX13_minor_365 ?_
          refine tw_lald mX_ok hx hb hK hM mr_72 hq dmX13_minor_366 (fun v7 hq => ?_)
          exact mw_lret hx hb hr hlocks hM hq hQQ dmX13_minor_367
        · have hq := tw_if hq hc
          refine lv_iload hx hb dmX13_minor_118 (lv_at hl 6 rfl) ?_
          refine lv_istore (lv' := [(8, .int x7), (0, .ref (u 0)), (1, .int x1), (2, .int x2), (3, .int x3), (4, .int x4), (5, .long w5), (7, .int x7)]) hx hb dmX13_minor_120 hl (by decide) rfl (fun ls hl => ?_)
          exact ih_6 x1 x2 x3 x4 0 0 x7 x7 0 0 w5 z H locs ls hM (lv_sub hl [1, 2, 3, 4, 5, 6, 7, 0] rfl) hq
      · intro x1 x2 x3 x4 x5 x6 x7 x8 x9 x10 w5 z H locs ls  hM hl hq
        have hq : qm_X13_minor_6 K (q_X13_minor K k) x1 x2 x3 x4 x5 x6 x7 x8 x9 x10 w5 z = some (r, z1) := hq
        unfold qm_X13_minor_6 at hq
        refine lv_iload hx hb dmX13_minor_122 (lv_at hl 7 rfl) ?_
        refine lv_iload_n hx hb dmX13_minor_124 rfl (lv_at hl 3 rfl) ?_
        refine lv_icmp_ge (tgt := 152) hx hb dmX13_minor_125 (by decide) (fun hc => ?_) (fun hc => ?_)
        · have hq := tw_it hq hc
          exact ih_7 x1 x2 x3 x4 0 0 x7 x8 0 0 w5 z H locs ls hM (lv_sub hl [0, 1, 2, 3, 4, 5, 6, 7] rfl) hq
        · have hq := tw_if hq hc
          refine lv_aload_n hx hb dmX13_minor_128 rfl (lv_at hl 0 rfl) ?_
          refine mg13_262 hx hb hT hown hK hM dmX13_minor_129 ?_
          refine lv_bipush (v := 13) hx hb dmX13_minor_132 (by decide) ?_
          refine lv_iload hx hb dmX13_minor_134 (lv_at hl 7 rfl) ?_
          refine lv_imul hx hb dmX13_minor_136 ?_
          refine lv_iload hx hb dmX13_minor_137 (lv_at hl 6 rfl) ?_
          refine lv_iadd hx hb dmX13_minor_139 ?_
          refine tw_lald mX_ok hx hb hK hM mr_72 hq dmX13_minor_140 (fun v8 hq => ?_)
          refine lv_lconst (v := 0) hx hb dmX13_minor_141 rfl ?_
          refine W.lcmp hx hb dmX13_minor_142 ?_
          refine lv_if_ne (tgt := 152) hx hb dmX13_minor_143 (by decide) (fun hc => ?_) (fun hc => ?_)
          · have hq := tw_if hq hc
            exact ih_7 x1 x2 x3 x4 0 0 x7 x8 0 0 w5 z H locs ls hM (lv_sub hl [0, 1, 2, 3, 4, 5, 6, 7] rfl) hq
          · have hq := tw_it hq hc
            refine lv_iinc (v := (x8 + 1)) (lv' := [(8, .int (x8 + 1)), (0, .ref (u 0)), (1, .int x1), (2, .int x2), (3, .int x3), (4, .int x4), (5, .long w5), (7, .int x7)]) hx hb dmX13_minor_146 hl (k := 7) rfl rfl (by decide) rfl (fun ls hl => ?_)
            refine lv_goto (tgt := 122) hx hb dmX13_minor_149 (by decide) ?_
            exact ih_6 x1 x2 x3 x4 0 0 x7 (x8 + 1) 0 0 w5 z H locs ls hM (lv_sub hl [1, 2, 3, 4, 5, 6, 7, 0] rfl) hq
      · intro x1 x2 x3 x4 x5 x6 x7 x8 x9 x10 w5 z H locs ls  hM hl hq
        have hq : qm_X13_minor_7 K (q_X13_minor K k) x1 x2 x3 x4 x5 x6 x7 x8 x9 x10 w5 z = some (r, z1) := hq
        unfold qm_X13_minor_7 at hq
        refine lv_iload hx hb dmX13_minor_152 (lv_at hl 7 rfl) ?_
        refine lv_iload_n hx hb dmX13_minor_154 rfl (lv_at hl 3 rfl) ?_
        refine lv_icmp_ne (tgt := 160) hx hb dmX13_minor_155 (by decide) (fun hc => ?_) (fun hc => ?_)
        · have hq := tw_if hq hc
          refine lv_iconst (v := 0) hx hb dmX13_minor_160 (by decide) ?_
          refine lv_istore (lv' := [(9, .int 0), (0, .ref (u 0)), (1, .int x1), (2, .int x2), (3, .int x3), (4, .int x4), (5, .long w5), (7, .int x7), (8, .int x8)]) hx hb dmX13_minor_161 hl (by decide) rfl (fun ls hl => ?_)
          exact ih_8 x1 x2 x3 x4 0 0 x7 x8 0 0 w5 z H locs ls hM (lv_sub hl [1, 2, 3, 4, 5, 6, 7, 8, 0] rfl) hq
        · have hq := tw_it hq hc
          refine lv_lconst (v := 0) hx hb dmX13_minor_158 rfl ?_
          exact mw_lret hx hb hr hlocks hM hq hQQ dmX13_minor_159
      · intro x1 x2 x3 x4 x5 x6 x7 x8 x9 x10 w5 z H locs ls  hM hl hq
        have hq : qm_X13_minor_8 K (q_X13_minor K k) x1 x2 x3 x4 x5 x6 x7 x8 x9 x10 w5 z = some (r, z1) := hq
        unfold qm_X13_minor_8 at hq
        refine lv_iload hx hb dmX13_minor_163 (lv_at hl 8 rfl) ?_
        refine lv_iload_n hx hb dmX13_minor_165 rfl (lv_at hl 3 rfl) ?_
        refine lv_icmp_ge (tgt := 231) hx hb dmX13_minor_166 (by decide) (fun hc => ?_) (fun hc => ?_)
        · have hq := tw_it hq hc
          refine lv_iload hx hb dmX13_minor_231 (lv_at hl 6 rfl) ?_
          refine lv_iconst (v := 1) hx hb dmX13_minor_233 (by decide) ?_
          refine lv_iadd hx hb dmX13_minor_234 ?_
          refine lv_istore (lv' := [(9, .int (x7 + 1)), (0, .ref (u 0)), (1, .int x1), (2, .int x2), (3, .int x3), (4, .int x4), (5, .long w5), (7, .int x7), (8, .int x8)]) hx hb dmX13_minor_235 hl (by decide) rfl (fun ls hl => ?_)
          exact ih_9 x1 x2 x3 x4 0 0 x7 x8 (x7 + 1) 0 w5 z H locs ls hM (lv_sub hl [1, 2, 3, 4, 5, 6, 7, 8, 0] rfl) hq
        · have hq := tw_if hq hc
          refine lv_aload_n hx hb dmX13_minor_169 rfl (lv_at hl 0 rfl) ?_
          refine mg13_262 hx hb hT hown hK hM dmX13_minor_170 ?_
          refine lv_bipush (v := 13) hx hb dmX13_minor_173 (by decide) ?_
          refine lv_iload hx hb dmX13_minor_175 (lv_at hl 7 rfl) ?_
          refine lv_imul hx hb dmX13_minor_177 ?_
          refine lv_iload hx hb dmX13_minor_178 (lv_at hl 8 rfl) ?_
          refine lv_iadd hx hb dmX13_minor_180 ?_
          refine tw_lald mX_ok hx hb hK hM mr_72 hq dmX13_minor_181 (fun v9 hq => ?_)
          refine lv_lstore (lv' := [(10, .long v9), (0, .ref (u 0)), (1, .int x1), (2, .int x2), (3, .int x3), (4, .int x4), (5, .long w5), (7, .int x7), (8, .int x8), (9, .int x9)]) hx hb dmX13_minor_182 hl (by decide) rfl (fun ls hl => ?_)
          refine lv_aload_n hx hb dmX13_minor_184 rfl (lv_at hl 1 rfl) ?_
          refine mg13_262 hx hb hT hown hK hM dmX13_minor_185 ?_
          refine lv_bipush (v := 13) hx hb dmX13_minor_188 (by decide) ?_
          refine lv_iload hx hb dmX13_minor_190 (lv_at hl 8 rfl) ?_
          refine lv_imul hx hb dmX13_minor_192 ?_
          refine lv_iload hx hb dmX13_minor_193 (lv_at hl 9 rfl) ?_
          refine lv_iadd hx hb dmX13_minor_195 ?_
          refine lv_aload_n hx hb dmX13_minor_196 rfl (lv_at hl 1 rfl) ?_
          refine mg13_262 hx hb hT hown hK hM dmX13_minor_197 ?_
          refine lv_bipush (v := 13) hx hb dmX13_minor_200 (by decide) ?_
          refine lv_iload hx hb dmX13_minor_202 (lv_at hl 7 rfl) ?_
          refine lv_imul hx hb dmX13_minor_204 ?_
          refine lv_iload hx hb dmX13_minor_205 (lv_at hl 9 rfl) ?_
          refine lv_iadd hx hb dmX13_minor_207 ?_
          refine tw_lald mX_ok hx hb hK hM mr_72 hq dmX13_minor_208 (fun v10 hq => ?_)
          refine tw_last mX_ok hU hx hb hK hM mr_72 hq dmX13_minor_209 (fun z11 H locs hM hq => ?_)
          refine lv_aload_n hx hb dmX13_minor_210 rfl (lv_at hl 1 rfl) ?_
          refine mg13_262 hx hb hT hown hK hM dmX13_minor_211 ?_
          refine lv_bipush (v := 13) hx hb dmX13_minor_214 (by decide) ?_
          refine lv_iload hx hb dmX13_minor_216 (lv_at hl 7 rfl) ?_
          refine lv_imul hx hb dmX13_minor_218 ?_
          refine lv_iload hx hb dmX13_minor_219 (lv_at hl 9 rfl) ?_
          refine lv_iadd hx hb dmX13_minor_221 ?_
          refine lv_lload hx hb dmX13_minor_222 (lv_at hl 0 rfl) ?_
          refine tw_last mX_ok hU hx hb hK hM mr_72 hq dmX13_minor_224 (fun z12 H locs hM hq => ?_)
          refine lv_iinc (v := (x9 + 1)) (lv' := [(9, .int (x9 + 1)), (10, .long v9), (0, .ref (u 0)), (1, .int x1), (2, .int x2), (3, .int x3), (4, .int x4), (5, .long w5), (7, .int x7), (8, .int x8)]) hx hb dmX13_minor_225 hl (k := 9) rfl rfl (by decide) rfl (fun ls hl => ?_)
          refine lv_goto (tgt := 163) hx hb dmX13_minor_228 (by decide) ?_
          exact ih_8 x1 x2 x3 x4 0 0 x7 x8 (x9 + 1) 0 w5 z12 H locs ls hM (lv_sub hl [2, 3, 4, 5, 6, 7, 8, 9, 0] rfl) hq
      · intro x1 x2 x3 x4 x5 x6 x7 x8 x9 x10 w5 z H locs ls  hM hl hq
        have hq : qm_X13_minor_9 K (q_X13_minor K k) x1 x2 x3 x4 x5 x6 x7 x8 x9 x10 w5 z = some (r, z1) := hq
        unfold qm_X13_minor_9 at hq
        refine lv_iload hx hb dmX13_minor_237 (lv_at hl 8 rfl) ?_
        refine lv_iload_n hx hb dmX13_minor_239 rfl (lv_at hl 3 rfl) ?_
        refine lv_icmp_ge (tgt := 338) hx hb dmX13_minor_240 (by decide) (fun hc => ?_) (fun hc => ?_)
        · have hq := tw_it hq hc
          refine lv_aload_n hx hb dmX13_minor_338 rfl (lv_at hl 0 rfl) ?_
          refine mg13_262 hx hb hT hown hK hM dmX13_minor_339 ?_
          refine lv_bipush (v := 14) hx hb dmX13_minor_342 (by decide) ?_
          refine lv_iload hx hb dmX13_minor_344 (lv_at hl 6 rfl) ?_
          refine lv_imul hx hb dmX13_minor_346 ?_
          refine tw_lald mX_ok hx hb hK hM mr_72 hq dmX13_minor_347 (fun v13 hq => ?_)
          refine lv_lstore (lv' := [(5, .long v13), (0, .ref (u 0)), (1, .int x1), (2, .int x2), (3, .int x3), (4, .int x4), (7, .int x7), (8, .int x8), (9, .int x9)]) hx hb dmX13_minor_348 hl (by decide) rfl (fun ls hl => ?_)
          refine lv_iinc (v := (x7 + 1)) (lv' := [(7, .int (x7 + 1)), (5, .long v13), (0, .ref (u 0)), (1, .int x1), (2, .int x2), (3, .int x3), (4, .int x4), (8, .int x8), (9, .int x9)]) hx hb dmX13_minor_350 hl (k := 6) rfl rfl (by decide) rfl (fun ls hl => ?_)
          refine lv_goto (tgt := 110) hx hb dmX13_minor_353 (by decide) ?_
          exact ih_5 x1 x2 x3 x4 0 0 (x7 + 1) 0 0 0 v13 z H locs ls hM (lv_sub hl [2, 3, 4, 5, 6, 1, 0] rfl) hq
        · have hq := tw_if hq hc
          refine lv_iload hx hb dmX13_minor_243 (lv_at hl 6 rfl) ?_
          refine lv_iconst (v := 1) hx hb dmX13_minor_245 (by decide) ?_
          refine lv_iadd hx hb dmX13_minor_246 ?_
          refine lv_istore (lv' := [(10, .int (x7 + 1)), (0, .ref (u 0)), (1, .int x1), (2, .int x2), (3, .int x3), (4, .int x4), (5, .long w5), (7, .int x7), (8, .int x8), (9, .int x9)]) hx hb dmX13_minor_247 hl (by decide) rfl (fun ls hl => ?_)
          exact ih_10 x1 x2 x3 x4 0 0 x7 x8 x9 (x7 + 1) w5 z H locs ls hM (lv_sub hl [1, 2, 3, 4, 5, 6, 7, 8, 9, 0] rfl) hq
      · intro x1 x2 x3 x4 x5 x6 x7 x8 x9 x10 w5 z H locs ls  hM hl hq
        have hq : qm_X13_minor_10 K (q_X13_minor K k) x1 x2 x3 x4 x5 x6 x7 x8 x9 x10 w5 z = some (r, z1) := hq
        unfold qm_X13_minor_10 at hq
        refine lv_iload hx hb dmX13_minor_249 (lv_at hl 9 rfl) ?_
        refine lv_iload_n hx hb dmX13_minor_251 rfl (lv_at hl 3 rfl) ?_
        refine lv_icmp_ge (tgt := 332) hx hb dmX13_minor_252 (by decide) (fun hc => ?_) (fun hc => ?_)
        · have hq := tw_it hq hc
          refine lv_iinc (v := (x9 + 1)) (lv' := [(9, .int (x9 + 1)), (0, .ref (u 0)), (1, .int x1), (2, .int x2), (3, .int x3), (4, .int x4), (5, .long w5), (7, .int x7), (8, .int x8), (10, .int x10)]) hx hb dmX13_minor_332 hl (k := 8) rfl rfl (by decide) rfl (fun ls hl => ?_)
          refine lv_goto (tgt := 237) hx hb dmX13_minor_335 (by decide) ?_
          exact ih_9 x1 x2 x3 x4 0 0 x7 x8 (x9 + 1) 0 w5 z H locs ls hM (lv_sub hl [1, 2, 3, 4, 5, 6, 7, 8, 0] rfl) hq
        · have hq := tw_if hq hc
          refine lv_aload_n hx hb dmX13_minor_255 rfl (lv_at hl 0 rfl) ?_
          refine mg13_262 hx hb hT hown hK hM dmX13_minor_256 ?_
          refine lv_bipush (v := 13) hx hb dmX13_minor_259 (by decide) ?_
          refine lv_iload hx hb dmX13_minor_261 (lv_at hl 8 rfl) ?_
          refine lv_imul hx hb dmX13_minor_263 ?_
          refine lv_iload hx hb dmX13_minor_264 (lv_at hl 9 rfl) ?_
          refine lv_iadd hx hb dmX13_minor_266 ?_
          refine lv_aload_n hx hb dmX13_minor_267 rfl (lv_at hl 0 rfl) ?_
          refine mg13_262 hx hb hT hown hK hM dmX13_minor_268 ?_
          refine lv_bipush (v := 13) hx hb dmX13_minor_271 (by decide) ?_
          refine lv_iload hx hb dmX13_minor_273 (lv_at hl 8 rfl) ?_
          refine lv_imul hx hb dmX13_minor_275 ?_
          refine lv_iload hx hb dmX13_minor_276 (lv_at hl 9 rfl) ?_
          refine lv_iadd hx hb dmX13_minor_278 ?_
          refine tw_lald mX_ok hx hb hK hM mr_72 hq dmX13_minor_279 (fun v14 hq => ?_)
          refine lv_aload_n hx hb dmX13_minor_280 rfl (lv_at hl 0 rfl) ?_
          refine mg13_262 hx hb hT hown hK hM dmX13_minor_281 ?_
          refine lv_bipush (v := 13) hx hb dmX13_minor_284 (by decide) ?_
          refine lv_iload hx hb dmX13_minor_286 (lv_at hl 6 rfl) ?_
          refine lv_imul hx hb dmX13_minor_288 ?_
          refine lv_iload hx hb dmX13_minor_289 (lv_at hl 6 rfl) ?_
          refine lv_iadd hx hb dmX13_minor_291 ?_
          refine tw_lald mX_ok hx hb hK hM mr_72 hq dmX13_minor_292 (fun v15 hq => ?_)
          refine lv_lmul hx hb dmX13_minor_293 ?_
          refine lv_aload_n hx hb dmX13_minor_294 rfl (lv_at hl 0 rfl) ?_
          refine mg13_262 hx hb hT hown hK hM dmX13_minor_295 ?_
          refine lv_bipush (v := 13) hx hb dmX13_minor_298 (by decide) ?_
          refine lv_iload hx hb dmX13_minor_300 (lv_at hl 8 rfl) ?_
          refine lv_imul hx hb dmX13_minor_302 ?_
          refine lv_iload hx hb dmX13_minor_303 (lv_at hl 6 rfl) ?_
          refine lv_iadd hx hb dmX13_minor_305 ?_
          refine tw_lald mX_ok hx hb hK hM mr_72 hq dmX13_minor_306 (fun v16 hq => ?_)
          refine lv_aload_n hx hb dmX13_minor_307 rfl (lv_at hl 0 rfl) ?_
          refine mg13_262 hx hb hT hown hK hM dmX13_minor_308 ?_
          refine lv_bipush (v := 13) hx hb dmX13_minor_311 (by decide) ?_
          refine lv_iload hx hb dmX13_minor_313 (lv_at hl 6 rfl) ?_
          refine lv_imul hx hb dmX13_minor_315 ?_
          refine lv_iload hx hb dmX13_minor_316 (lv_at hl 9 rfl) ?_
          refine lv_iadd hx hb dmX13_minor_318 ?_
          refine tw_lald mX_ok hx hb hK hM mr_72 hq dmX13_minor_319 (fun v17 hq => ?_)
          refine lv_lmul hx hb dmX13_minor_320 ?_
          refine lv_lsub hx hb dmX13_minor_321 ?_
          refine lv_lload hx hb dmX13_minor_322 (lv_at hl 5 rfl) ?_
          obtain ⟨hz, hq⟩ := tw_nzJ hq
          refine lv_ldiv hx hb dmX13_minor_324 hz ?_
          refine tw_last mX_ok hU hx hb hK hM mr_72 hq dmX13_minor_325 (fun z18 H locs hM hq => ?_)
          refine lv_iinc (v := (x10 + 1)) (lv' := [(10, .int (x10 + 1)), (0, .ref (u 0)), (1, .int x1), (2, .int x2), (3, .int x3), (4, .int x4), (5, .long w5), (7, .int x7), (8, .int x8), (9, .int x9)]) hx hb dmX13_minor_326 hl (k := 9) rfl rfl (by decide) rfl (fun ls hl => ?_)
          refine lv_goto (tgt := 249) hx hb dmX13_minor_329 (by decide) ?_
          exact ih_10 x1 x2 x3 x4 0 0 x7 x8 x9 (x10 + 1) w5 z18 H locs ls hM (lv_sub hl [1, 2, 3, 4, 5, 6, 7, 8, 9, 0] rfl) hq
  exact (key K).1 x1 x2 x3 0 0 0 0 0 0 0 0 z s.heap [] ls  hM (lv_sub hl [0, 1, 2, 3] rfl) hq
