theorem dgX4_findCharacteristic_0 : decode cX4_findCharacteristic 0 = .ok (.aload_n 0, 1) := by decide +kernel
theorem dgX4_findCharacteristic_1 : decode cX4_findCharacteristic 1 = .ok (.getfield 31, 3) := by decide +kernel
theorem dgX4_findCharacteristic_4 : decode cX4_findCharacteristic 4 = .ok (.lconst 0, 1) := by decide +kernel
theorem dgX4_findCharacteristic_5 : decode cX4_findCharacteristic 5 = .ok (.invokestatic 89, 3) := by decide +kernel
theorem dgX4_findCharacteristic_8 : decode cX4_findCharacteristic 8 = .ok (.aload_n 0, 1) := by decide +kernel
theorem dgX4_findCharacteristic_9 : decode cX4_findCharacteristic 9 = .ok (.getfield 25, 3) := by decide +kernel
theorem dgX4_findCharacteristic_12 : decode cX4_findCharacteristic 12 = .ok (.lconst 0, 1) := by decide +kernel
theorem dgX4_findCharacteristic_13 : decode cX4_findCharacteristic 13 = .ok (.invokestatic 89, 3) := by decide +kernel
theorem dgX4_findCharacteristic_16 : decode cX4_findCharacteristic 16 = .ok (.aload_n 0, 1) := by decide +kernel
theorem dgX4_findCharacteristic_17 : decode cX4_findCharacteristic 17 = .ok (.getfield 31, 3) := by decide +kernel
theorem dgX4_findCharacteristic_20 : decode cX4_findCharacteristic 20 = .ok (.iload_n 1, 1) := by decide +kernel
theorem dgX4_findCharacteristic_21 : decode cX4_findCharacteristic 21 = .ok (.lconst 1, 1) := by decide +kernel
theorem dgX4_findCharacteristic_22 : decode cX4_findCharacteristic 22 = .ok (.lastore, 1) := by decide +kernel
theorem dgX4_findCharacteristic_23 : decode cX4_findCharacteristic 23 = .ok (.iconst 1, 1) := by decide +kernel
theorem dgX4_findCharacteristic_24 : decode cX4_findCharacteristic 24 = .ok (.istore_n 2, 1) := by decide +kernel
theorem dgX4_findCharacteristic_25 : decode cX4_findCharacteristic 25 = .ok (.iload_n 2, 1) := by decide +kernel
theorem dgX4_findCharacteristic_26 : decode cX4_findCharacteristic 26 = .ok (.iload_n 1, 1) := by decide +kernel
theorem dgX4_findCharacteristic_27 : decode cX4_findCharacteristic 27 = .ok (.if_icmp .gt 190, 3) := by decide +kernel
theorem dgX4_findCharacteristic_30 : decode cX4_findCharacteristic 30 = .ok (.iconst 0, 1) := by decide +kernel
theorem dgX4_findCharacteristic_31 : decode cX4_findCharacteristic 31 = .ok (.istore_n 3, 1) := by decide +kernel
theorem dgX4_findCharacteristic_32 : decode cX4_findCharacteristic 32 = .ok (.iload_n 3, 1) := by decide +kernel
theorem dgX4_findCharacteristic_33 : decode cX4_findCharacteristic 33 = .ok (.iload_n 1, 1) := by decide +kernel
theorem dgX4_findCharacteristic_34 : decode cX4_findCharacteristic 34 = .ok (.if_icmp .ge 33, 3) := by decide +kernel
theorem dgX4_findCharacteristic_37 : decode cX4_findCharacteristic 37 = .ok (.aload_n 0, 1) := by decide +kernel
theorem dgX4_findCharacteristic_38 : decode cX4_findCharacteristic 38 = .ok (.getfield 25, 3) := by decide +kernel
theorem dgX4_findCharacteristic_41 : decode cX4_findCharacteristic 41 = .ok (.iload_n 3, 1) := by decide +kernel
theorem dgX4_findCharacteristic_42 : decode cX4_findCharacteristic 42 = .ok (.bipush 8, 2) := by decide +kernel
theorem dgX4_findCharacteristic_44 : decode cX4_findCharacteristic 44 = .ok (.imul, 1) := by decide +kernel
theorem dgX4_findCharacteristic_45 : decode cX4_findCharacteristic 45 = .ok (.iload_n 3, 1) := by decide +kernel
theorem dgX4_findCharacteristic_46 : decode cX4_findCharacteristic 46 = .ok (.iadd, 1) := by decide +kernel
theorem dgX4_findCharacteristic_47 : decode cX4_findCharacteristic 47 = .ok (.dup2, 1) := by decide +kernel
theorem dgX4_findCharacteristic_48 : decode cX4_findCharacteristic 48 = .ok (.laload, 1) := by decide +kernel
theorem dgX4_findCharacteristic_49 : decode cX4_findCharacteristic 49 = .ok (.aload_n 0, 1) := by decide +kernel
theorem dgX4_findCharacteristic_50 : decode cX4_findCharacteristic 50 = .ok (.getfield 31, 3) := by decide +kernel
theorem dgX4_findCharacteristic_53 : decode cX4_findCharacteristic 53 = .ok (.iload_n 1, 1) := by decide +kernel
theorem dgX4_findCharacteristic_54 : decode cX4_findCharacteristic 54 = .ok (.iload_n 2, 1) := by decide +kernel
theorem dgX4_findCharacteristic_55 : decode cX4_findCharacteristic 55 = .ok (.isub, 1) := by decide +kernel
theorem dgX4_findCharacteristic_56 : decode cX4_findCharacteristic 56 = .ok (.iconst 1, 1) := by decide +kernel
theorem dgX4_findCharacteristic_57 : decode cX4_findCharacteristic 57 = .ok (.iadd, 1) := by decide +kernel
theorem dgX4_findCharacteristic_58 : decode cX4_findCharacteristic 58 = .ok (.laload, 1) := by decide +kernel
theorem dgX4_findCharacteristic_59 : decode cX4_findCharacteristic 59 = .ok (.ladd, 1) := by decide +kernel
theorem dgX4_findCharacteristic_60 : decode cX4_findCharacteristic 60 = .ok (.lastore, 1) := by decide +kernel
theorem dgX4_findCharacteristic_61 : decode cX4_findCharacteristic 61 = .ok (.iinc 3 1, 3) := by decide +kernel
theorem dgX4_findCharacteristic_64 : decode cX4_findCharacteristic 64 = .ok (.goto (-32), 3) := by decide +kernel
theorem dgX4_findCharacteristic_67 : decode cX4_findCharacteristic 67 = .ok (.lconst 0, 1) := by decide +kernel
theorem dgX4_findCharacteristic_68 : decode cX4_findCharacteristic 68 = .ok (.lstore_n 3, 1) := by decide +kernel
theorem dgX4_findCharacteristic_69 : decode cX4_findCharacteristic 69 = .ok (.iconst 0, 1) := by decide +kernel
theorem dgX4_findCharacteristic_70 : decode cX4_findCharacteristic 70 = .ok (.istore 5, 2) := by decide +kernel
theorem dgX4_findCharacteristic_72 : decode cX4_findCharacteristic 72 = .ok (.iload 5, 2) := by decide +kernel
theorem dgX4_findCharacteristic_74 : decode cX4_findCharacteristic 74 = .ok (.iload_n 1, 1) := by decide +kernel
theorem dgX4_findCharacteristic_75 : decode cX4_findCharacteristic 75 = .ok (.if_icmp .ge 105, 3) := by decide +kernel
theorem dgX4_findCharacteristic_78 : decode cX4_findCharacteristic 78 = .ok (.iconst 0, 1) := by decide +kernel
theorem dgX4_findCharacteristic_79 : decode cX4_findCharacteristic 79 = .ok (.istore 6, 2) := by decide +kernel
theorem dgX4_findCharacteristic_81 : decode cX4_findCharacteristic 81 = .ok (.iload 6, 2) := by decide +kernel
theorem dgX4_findCharacteristic_83 : decode cX4_findCharacteristic 83 = .ok (.iload_n 1, 1) := by decide +kernel
theorem dgX4_findCharacteristic_84 : decode cX4_findCharacteristic 84 = .ok (.if_icmp .ge 74, 3) := by decide +kernel
theorem dgX4_findCharacteristic_87 : decode cX4_findCharacteristic 87 = .ok (.lconst 0, 1) := by decide +kernel
theorem dgX4_findCharacteristic_88 : decode cX4_findCharacteristic 88 = .ok (.lstore 7, 2) := by decide +kernel
theorem dgX4_findCharacteristic_90 : decode cX4_findCharacteristic 90 = .ok (.iconst 0, 1) := by decide +kernel
theorem dgX4_findCharacteristic_91 : decode cX4_findCharacteristic 91 = .ok (.istore 9, 2) := by decide +kernel
theorem dgX4_findCharacteristic_93 : decode cX4_findCharacteristic 93 = .ok (.iload 9, 2) := by decide +kernel
theorem dgX4_findCharacteristic_95 : decode cX4_findCharacteristic 95 = .ok (.iload_n 1, 1) := by decide +kernel
theorem dgX4_findCharacteristic_96 : decode cX4_findCharacteristic 96 = .ok (.if_icmp .ge 41, 3) := by decide +kernel
theorem dgX4_findCharacteristic_99 : decode cX4_findCharacteristic 99 = .ok (.lload 7, 2) := by decide +kernel
theorem dgX4_findCharacteristic_101 : decode cX4_findCharacteristic 101 = .ok (.aload_n 0, 1) := by decide +kernel
theorem dgX4_findCharacteristic_102 : decode cX4_findCharacteristic 102 = .ok (.getfield 21, 3) := by decide +kernel
theorem dgX4_findCharacteristic_105 : decode cX4_findCharacteristic 105 = .ok (.iload 5, 2) := by decide +kernel
theorem dgX4_findCharacteristic_107 : decode cX4_findCharacteristic 107 = .ok (.bipush 8, 2) := by decide +kernel
theorem dgX4_findCharacteristic_109 : decode cX4_findCharacteristic 109 = .ok (.imul, 1) := by decide +kernel
theorem dgX4_findCharacteristic_110 : decode cX4_findCharacteristic 110 = .ok (.iload 9, 2) := by decide +kernel
theorem dgX4_findCharacteristic_112 : decode cX4_findCharacteristic 112 = .ok (.iadd, 1) := by decide +kernel
theorem dgX4_findCharacteristic_113 : decode cX4_findCharacteristic 113 = .ok (.laload, 1) := by decide +kernel
theorem dgX4_findCharacteristic_114 : decode cX4_findCharacteristic 114 = .ok (.aload_n 0, 1) := by decide +kernel
theorem dgX4_findCharacteristic_115 : decode cX4_findCharacteristic 115 = .ok (.getfield 25, 3) := by decide +kernel
theorem dgX4_findCharacteristic_118 : decode cX4_findCharacteristic 118 = .ok (.iload 9, 2) := by decide +kernel
theorem dgX4_findCharacteristic_120 : decode cX4_findCharacteristic 120 = .ok (.bipush 8, 2) := by decide +kernel
theorem dgX4_findCharacteristic_122 : decode cX4_findCharacteristic 122 = .ok (.imul, 1) := by decide +kernel
theorem dgX4_findCharacteristic_123 : decode cX4_findCharacteristic 123 = .ok (.iload 6, 2) := by decide +kernel
theorem dgX4_findCharacteristic_125 : decode cX4_findCharacteristic 125 = .ok (.iadd, 1) := by decide +kernel
theorem dgX4_findCharacteristic_126 : decode cX4_findCharacteristic 126 = .ok (.laload, 1) := by decide +kernel
theorem dgX4_findCharacteristic_127 : decode cX4_findCharacteristic 127 = .ok (.lmul, 1) := by decide +kernel
theorem dgX4_findCharacteristic_128 : decode cX4_findCharacteristic 128 = .ok (.ladd, 1) := by decide +kernel
theorem dgX4_findCharacteristic_129 : decode cX4_findCharacteristic 129 = .ok (.lstore 7, 2) := by decide +kernel
theorem dgX4_findCharacteristic_131 : decode cX4_findCharacteristic 131 = .ok (.iinc 9 1, 3) := by decide +kernel
theorem dgX4_findCharacteristic_134 : decode cX4_findCharacteristic 134 = .ok (.goto (-41), 3) := by decide +kernel
theorem dgX4_findCharacteristic_137 : decode cX4_findCharacteristic 137 = .ok (.aload_n 0, 1) := by decide +kernel
theorem dgX4_findCharacteristic_138 : decode cX4_findCharacteristic 138 = .ok (.getfield 28, 3) := by decide +kernel
theorem dgX4_findCharacteristic_141 : decode cX4_findCharacteristic 141 = .ok (.iload 5, 2) := by decide +kernel
theorem dgX4_findCharacteristic_143 : decode cX4_findCharacteristic 143 = .ok (.bipush 8, 2) := by decide +kernel
theorem dgX4_findCharacteristic_145 : decode cX4_findCharacteristic 145 = .ok (.imul, 1) := by decide +kernel
theorem dgX4_findCharacteristic_146 : decode cX4_findCharacteristic 146 = .ok (.iload 6, 2) := by decide +kernel
theorem dgX4_findCharacteristic_148 : decode cX4_findCharacteristic 148 = .ok (.iadd, 1) := by decide +kernel
theorem dgX4_findCharacteristic_149 : decode cX4_findCharacteristic 149 = .ok (.lload 7, 2) := by decide +kernel
theorem dgX4_findCharacteristic_151 : decode cX4_findCharacteristic 151 = .ok (.lastore, 1) := by decide +kernel
theorem dgX4_findCharacteristic_152 : decode cX4_findCharacteristic 152 = .ok (.iinc 6 1, 3) := by decide +kernel
theorem dgX4_findCharacteristic_155 : decode cX4_findCharacteristic 155 = .ok (.goto (-74), 3) := by decide +kernel
theorem dgX4_findCharacteristic_158 : decode cX4_findCharacteristic 158 = .ok (.lload_n 3, 1) := by decide +kernel
theorem dgX4_findCharacteristic_159 : decode cX4_findCharacteristic 159 = .ok (.aload_n 0, 1) := by decide +kernel
theorem dgX4_findCharacteristic_160 : decode cX4_findCharacteristic 160 = .ok (.getfield 28, 3) := by decide +kernel
theorem dgX4_findCharacteristic_163 : decode cX4_findCharacteristic 163 = .ok (.iload 5, 2) := by decide +kernel
theorem dgX4_findCharacteristic_165 : decode cX4_findCharacteristic 165 = .ok (.bipush 8, 2) := by decide +kernel
theorem dgX4_findCharacteristic_167 : decode cX4_findCharacteristic 167 = .ok (.imul, 1) := by decide +kernel
theorem dgX4_findCharacteristic_168 : decode cX4_findCharacteristic 168 = .ok (.iload 5, 2) := by decide +kernel
theorem dgX4_findCharacteristic_170 : decode cX4_findCharacteristic 170 = .ok (.iadd, 1) := by decide +kernel
theorem dgX4_findCharacteristic_171 : decode cX4_findCharacteristic 171 = .ok (.laload, 1) := by decide +kernel
theorem dgX4_findCharacteristic_172 : decode cX4_findCharacteristic 172 = .ok (.ladd, 1) := by decide +kernel
theorem dgX4_findCharacteristic_173 : decode cX4_findCharacteristic 173 = .ok (.lstore_n 3, 1) := by decide +kernel
theorem dgX4_findCharacteristic_174 : decode cX4_findCharacteristic 174 = .ok (.iinc 5 1, 3) := by decide +kernel
theorem dgX4_findCharacteristic_177 : decode cX4_findCharacteristic 177 = .ok (.goto (-105), 3) := by decide +kernel
theorem dgX4_findCharacteristic_180 : decode cX4_findCharacteristic 180 = .ok (.aload_n 0, 1) := by decide +kernel
theorem dgX4_findCharacteristic_181 : decode cX4_findCharacteristic 181 = .ok (.getfield 31, 3) := by decide +kernel
theorem dgX4_findCharacteristic_184 : decode cX4_findCharacteristic 184 = .ok (.iload_n 1, 1) := by decide +kernel
theorem dgX4_findCharacteristic_185 : decode cX4_findCharacteristic 185 = .ok (.iload_n 2, 1) := by decide +kernel
theorem dgX4_findCharacteristic_186 : decode cX4_findCharacteristic 186 = .ok (.isub, 1) := by decide +kernel
theorem dgX4_findCharacteristic_187 : decode cX4_findCharacteristic 187 = .ok (.lload_n 3, 1) := by decide +kernel
theorem dgX4_findCharacteristic_188 : decode cX4_findCharacteristic 188 = .ok (.lneg, 1) := by decide +kernel
theorem dgX4_findCharacteristic_189 : decode cX4_findCharacteristic 189 = .ok (.iload_n 2, 1) := by decide +kernel
theorem dgX4_findCharacteristic_190 : decode cX4_findCharacteristic 190 = .ok (.i2l, 1) := by decide +kernel
theorem dgX4_findCharacteristic_191 : decode cX4_findCharacteristic 191 = .ok (.ldiv, 1) := by decide +kernel
theorem dgX4_findCharacteristic_192 : decode cX4_findCharacteristic 192 = .ok (.lastore, 1) := by decide +kernel
theorem dgX4_findCharacteristic_193 : decode cX4_findCharacteristic 193 = .ok (.aload_n 0, 1) := by decide +kernel
theorem dgX4_findCharacteristic_194 : decode cX4_findCharacteristic 194 = .ok (.getfield 28, 3) := by decide +kernel
theorem dgX4_findCharacteristic_197 : decode cX4_findCharacteristic 197 = .ok (.iconst 0, 1) := by decide +kernel
theorem dgX4_findCharacteristic_198 : decode cX4_findCharacteristic 198 = .ok (.aload_n 0, 1) := by decide +kernel
theorem dgX4_findCharacteristic_199 : decode cX4_findCharacteristic 199 = .ok (.getfield 25, 3) := by decide +kernel
theorem dgX4_findCharacteristic_202 : decode cX4_findCharacteristic 202 = .ok (.iconst 0, 1) := by decide +kernel
theorem dgX4_findCharacteristic_203 : decode cX4_findCharacteristic 203 = .ok (.aload_n 0, 1) := by decide +kernel
theorem dgX4_findCharacteristic_204 : decode cX4_findCharacteristic 204 = .ok (.getfield 28, 3) := by decide +kernel
theorem dgX4_findCharacteristic_207 : decode cX4_findCharacteristic 207 = .ok (.arraylength, 1) := by decide +kernel
theorem dgX4_findCharacteristic_208 : decode cX4_findCharacteristic 208 = .ok (.invokestatic 108, 3) := by decide +kernel
theorem dgX4_findCharacteristic_211 : decode cX4_findCharacteristic 211 = .ok (.iinc 2 1, 3) := by decide +kernel
theorem dgX4_findCharacteristic_214 : decode cX4_findCharacteristic 214 = .ok (.goto (-189), 3) := by decide +kernel
theorem dgX4_findCharacteristic_217 : decode cX4_findCharacteristic 217 = .ok (.return_, 1) := by decide +kernel
def wg_X4_findCharacteristic : List Cond := .code yX4_findCharacteristic cX4_findCharacteristic 10 none :: (([.fieldLink RX4 31 "KnotHouse$Faces" "characteristic" "[J", .fieldLink RX4 25 "KnotHouse$Faces" "power" "[J", .fieldLink RX4 21 "KnotHouse$Faces" "matrix" "[J", .fieldLink RX4 28 "KnotHouse$Faces" "product" "[J", .methodLink RX4 108 arraycopyName, .native arraycopyName, .static arraycopyName, .initialized "java/lang/System"] ++ wsX40) ++ (va_wsS RX4 89 yJ7_fill_d0a16 wg_J7_fill_d0a16 ++ []))
theorem gg_X4_findCharacteristic_0 : GoodIn wg_X4_findCharacteristic (va_wsS RX4 89 yJ7_fill_d0a16 wg_J7_fill_d0a16) := goodIn_sub (fun _ h => List.mem_cons_of_mem _ (List.mem_append_right _ (List.mem_append_left _ h))) (by decide +kernel)
set_option maxHeartbeats 4000000 in
set_option maxRecDepth 100000 in
theorem kg_X4_findCharacteristic (l : Launch) (dC : Nat → ClassId) (dI : Nat → Nat → Nat) (cI cB cJ cZ : ClassId) (aF : Nat) (ff : Nat → Nat) (z : Int32) (mt ch pw pr : Nat → Int64) (sn : Nat) (hsn : sn ≤ 8) (sz : Nat) : Met l yX4_findCharacteristic wg_X4_findCharacteristic (({ frames := 1, cells := 0, slots := 0, locals := 60 } : Room)) (va_Pc [.ref aF, .int (nI sn)] (fun U => U.heap.size = sz ∧ va_P (dC, dI) vwCl [(aF, .inr (7, [.ref (ff 0), .int z, .ref (ff 2), .ref (ff 3), .ref (ff 4), .ref (ff 5), .ref (ff 6), .ref (ff 7)])), ((ff 4), .inl (cJ, 64, .inr (.inl mt))), ((ff 5), .inl (cJ, 64, .inr (.inl pw))), ((ff 6), .inl (cJ, 64, .inr (.inl pr))), ((ff 7), .inl (cJ, 9, .inr (.inl ch)))] U.heap ∧ va_K (dC, dI) vwCl [(cI, .int), (cB, .byte), (cJ, .long), (cZ, .boolean)] U ∧ va_D (fun _ => True) [(aF, .inr (7, [.ref (ff 0), .int z, .ref (ff 2), .ref (ff 3), .ref (ff 4), .ref (ff 5), .ref (ff 6), .ref (ff 7)])), ((ff 4), .inl (cJ, 64, .inr (.inl mt))), ((ff 5), .inl (cJ, 64, .inr (.inl pw))), ((ff 6), .inl (cJ, 64, .inr (.inl pr))), ((ff 7), .inl (cJ, 9, .inr (.inl ch)))])) (va_Qv (fun (g : Unit) => True) (fun g t => va_P (dC, dI) vwCl [(aF, .inr (7, [.ref (ff 0), .int z, .ref (ff 2), .ref (ff 3), .ref (ff 4), .ref (ff 5), .ref (ff 6), .ref (ff 7)])), ((ff 4), .inl (cJ, 64, .inr (.inl mt))), ((ff 5), .inl (cJ, 64, .inr (.inl ((fk_n mt sn (fk_0 ch pw pr sn) sn).2.1)))), ((ff 6), .inl (cJ, 64, .inr (.inl ((fk_n mt sn (fk_0 ch pw pr sn) sn).2.2)))), ((ff 7), .inl (cJ, 9, .inr (.inl ((fk_n mt sn (fk_0 ch pw pr sn) sn).1))))] t.heap ∧ va_D (va_A [(aF, .inr (7, [.ref (ff 0), .int z, .ref (ff 2), .ref (ff 3), .ref (ff 4), .ref (ff 5), .ref (ff 6), .ref (ff 7)])), ((ff 4), .inl (cJ, 64, .inr (.inl mt))), ((ff 5), .inl (cJ, 64, .inr (.inl pw))), ((ff 6), .inl (cJ, 64, .inr (.inl pr))), ((ff 7), .inl (cJ, 9, .inr (.inl ch)))] sz) [(aF, .inr (7, [.ref (ff 0), .int z, .ref (ff 2), .ref (ff 3), .ref (ff 4), .ref (ff 5), .ref (ff 6), .ref (ff 7)])), ((ff 4), .inl (cJ, 64, .inr (.inl mt))), ((ff 5), .inl (cJ, 64, .inr (.inl ((fk_n mt sn (fk_0 ch pw pr sn) sn).2.1)))), ((ff 6), .inl (cJ, 64, .inr (.inl ((fk_n mt sn (fk_0 ch pw pr sn) sn).2.2)))), ((ff 7), .inl (cJ, 9, .inr (.inl ((fk_n mt sn (fk_0 ch pw pr sn) sn).1))))]) (va_A [(aF, .inr (7, [.ref (ff 0), .int z, .ref (ff 2), .ref (ff 3), .ref (ff 4), .ref (ff 5), .ref (ff 6), .ref (ff 7)])), ((ff 4), .inl (cJ, 64, .inr (.inl mt))), ((ff 5), .inl (cJ, 64, .inr (.inl pw))), ((ff 6), .inl (cJ, 64, .inr (.inl pr))), ((ff 7), .inl (cJ, 9, .inr (.inl ch)))] sz)) 0 0 (va_A [(aF, .inr (7, [.ref (ff 0), .int z, .ref (ff 2), .ref (ff 3), .ref (ff 4), .ref (ff 5), .ref (ff 6), .ref (ff 7)])), ((ff 4), .inl (cJ, 64, .inr (.inl mt))), ((ff 5), .inl (cJ, 64, .inr (.inl pw))), ((ff 6), .inl (cJ, 64, .inr (.inl pr))), ((ff 7), .inl (cJ, 9, .inr (.inl ch)))] sz) := by
  refine Met.ofW (cc := cX4_findCharacteristic) (maxL := 10) (ret := none) (by decide) rfl ?_
  intro p e s m args below meth c s₁ B hml hv
  obtain ⟨rfl, hsz, hP, hK, hD0⟩ := hv
  have hx := B.exec
  have hb := B.bytes
  have hr := B.returns
  have hts := atoms_spec (ws := wg_X4_findCharacteristic) B.pre
  have hown : s.vm.findClass RX4 = some m.cls := findClass_of_methodNamed B.named
  have hlocks := B.notSynchronized
  subst hsz
  have hD := hD0.self (sz := s.heap.size)
  generalize hAe : va_A [(aF, .inr (7, [.ref (ff 0), .int z, .ref (ff 2), .ref (ff 3), .ref (ff 4), .ref (ff 5), .ref (ff 6), .ref (ff 7)])), ((ff 4), .inl (cJ, 64, .inr (.inl mt))), ((ff 5), .inl (cJ, 64, .inr (.inl pw))), ((ff 6), .inl (cJ, 64, .inr (.inl pr))), ((ff 7), .inl (cJ, 9, .inr (.inl ch)))] s.heap.size = A at hD ⊢
  have hA : ∀ q : Nat, s.heap.size ≤ q → A q := fun q h => by rw [← hAe]; exact Or.inr h
  have hS : va_S A s.heap s.heap [] := va_S.rf
  have hP : va_P (dC, dI) vwCl [(aF, .inr (7, [.ref (ff 0), .int z, .ref (ff 2), .ref (ff 3), .ref (ff 4), .ref (ff 5), .ref (ff 6), .ref (ff 7)])), ((ff 4), .inl (cJ, 64, .inr (.inl mt))), ((ff 5), .inl (cJ, 64, .inr (.inl pw))), ((ff 6), .inl (cJ, 64, .inr (.inl pr))), ((ff 7), .inl (cJ, 9, .inr (.inl ch)))] s.heap := hP
  have hl := lv_entry ([.ref aF, .int (nI sn)]) (n := 10) (Nat.le_of_ble_eq_true rfl)
  rw [lg_entry_eq]
  generalize (lg_sl ([.ref aF, .int (nI sn)]) ++ List.replicate (10 - (lg_sl ([.ref aF, .int (nI sn)])).length) Slot.unset).toArray = ls at hl ⊢
  have hl : lv_has ls 10 [(0, .ref aF), (1, .int (nI sn))] := hl
  refine ow_named (fun QQ hQQ => ?_)
  suffices key9 : ∀ (H : Heap) (locs : List Loc), va_P (dC, dI) vwCl [(aF, .inr (7, [.ref (ff 0), .int z, .ref (ff 2), .ref (ff 3), .ref (ff 4), .ref (ff 5), .ref (ff 6), .ref (ff 7)])), ((ff 4), .inl (cJ, 64, .inr (.inl mt))), ((ff 5), .inl (cJ, 64, .inr (.inl pw))), ((ff 6), .inl (cJ, 64, .inr (.inl pr))), ((ff 7), .inl (cJ, 9, .inr (.inl ch)))] H → va_S A s.heap H locs → W p l e ({ frames := 1, cells := 0, slots := 0, locals := 60 } : Room) s m ([.ref aF, .int (nI sn)] : List Value).toArray below meth c H locs 0 0 QQ (F0 m 0 ls []) from key9 s.heap [] hP hS
  intro H locs hP hS
  have L25 : ∀ (d i : Nat), i + d = sn → ∀ (H : Heap) (locs : List Loc) (ls : Array Slot), va_P (dC, dI) vwCl [(aF, .inr (7, [.ref (ff 0), .int z, .ref (ff 2), .ref (ff 3), .ref (ff 4), .ref (ff 5), .ref (ff 6), .ref (ff 7)])), ((ff 4), .inl (cJ, 64, .inr (.inl mt))), ((ff 5), .inl (cJ, 64, .inr (.inl ((fk_n mt sn (fk_0 ch pw pr sn) i).2.1)))), ((ff 6), .inl (cJ, 64, .inr (.inl ((fk_n mt sn (fk_0 ch pw pr sn) i).2.2)))), ((ff 7), .inl (cJ, 9, .inr (.inl ((fk_n mt sn (fk_0 ch pw pr sn) i).1))))] H → va_D A [(aF, .inr (7, [.ref (ff 0), .int z, .ref (ff 2), .ref (ff 3), .ref (ff 4), .ref (ff 5), .ref (ff 6), .ref (ff 7)])), ((ff 4), .inl (cJ, 64, .inr (.inl mt))), ((ff 5), .inl (cJ, 64, .inr (.inl ((fk_n mt sn (fk_0 ch pw pr sn) i).2.1)))), ((ff 6), .inl (cJ, 64, .inr (.inl ((fk_n mt sn (fk_0 ch pw pr sn) i).2.2)))), ((ff 7), .inl (cJ, 9, .inr (.inl ((fk_n mt sn (fk_0 ch pw pr sn) i).1))))] → va_S A s.heap H locs → lv_has ls 10 [(0, .ref aF), (1, .int (nI sn)), (2, .int (nI (i + 1)))] → W p l e ({ frames := 1, cells := 0, slots := 0, locals := 60 } : Room) s m ([.ref aF, .int (nI sn)] : List Value).toArray below meth c H locs 0 0 QQ (F0 m 25 ls []) := by
    intro d
    induction d with
    | zero =>
      intro i hi H locs ls hP hD hS hl
      have hie : i = sn := by omega
      refine lv_iload_n hx hb dgX4_findCharacteristic_25 rfl (lv_at hl 2 rfl) ?_
      refine lv_iload_n hx hb dgX4_findCharacteristic_26 rfl (lv_at hl 1 rfl) ?_
      refine lv_icmp_gt (tgt := 217) hx hb dgX4_findCharacteristic_27 (by decide) (fun _ => ?_) (fun c9 => absurd (nI_lt (a := sn) (b := i + 1) (by omega) (by omega)) c9)
      have hP : va_P (dC, dI) vwCl [(aF, .inr (7, [.ref (ff 0), .int z, .ref (ff 2), .ref (ff 3), .ref (ff 4), .ref (ff 5), .ref (ff 6), .ref (ff 7)])), ((ff 4), .inl (cJ, 64, .inr (.inl mt))), ((ff 5), .inl (cJ, 64, .inr (.inl ((fk_n mt sn (fk_0 ch pw pr sn) sn).2.1)))), ((ff 6), .inl (cJ, 64, .inr (.inl ((fk_n mt sn (fk_0 ch pw pr sn) sn).2.2)))), ((ff 7), .inl (cJ, 9, .inr (.inl ((fk_n mt sn (fk_0 ch pw pr sn) sn).1))))] H := by rw [hie] at hP; exact hP
      have hD : va_D A [(aF, .inr (7, [.ref (ff 0), .int z, .ref (ff 2), .ref (ff 3), .ref (ff 4), .ref (ff 5), .ref (ff 6), .ref (ff 7)])), ((ff 4), .inl (cJ, 64, .inr (.inl mt))), ((ff 5), .inl (cJ, 64, .inr (.inl ((fk_n mt sn (fk_0 ch pw pr sn) sn).2.1)))), ((ff 6), .inl (cJ, 64, .inr (.inl ((fk_n mt sn (fk_0 ch pw pr sn) sn).2.2)))), ((ff 7), .inl (cJ, 9, .inr (.inl ((fk_n mt sn (fk_0 ch pw pr sn) sn).1))))] := by rw [hie] at hD; exact hD
      rw [hQQ]
      exact W.vret hx hb hr (fun t ht hW => ⟨⟨(), rfl, trivial, by rw [ht]; exact hP, hD⟩, hS.F ht⟩) hS.2.2 dgX4_findCharacteristic_217
    | succ d ih =>
      intro i hi H locs ls hP hD hS hl
      refine lv_iload_n hx hb dgX4_findCharacteristic_25 rfl (lv_at hl 2 rfl) ?_
      refine lv_iload_n hx hb dgX4_findCharacteristic_26 rfl (lv_at hl 1 rfl) ?_
      refine lv_icmp_gt (tgt := 217) hx hb dgX4_findCharacteristic_27 (by decide) (fun c9 => absurd c9 (nI_nlt (a := sn) (b := i + 1) (by omega) (by omega))) (fun _ => ?_)
      refine lv_iconst (v := 0) hx hb dgX4_findCharacteristic_30 (by decide) ?_
      refine ow_topi (y := nI 0) (by decide) ?_
      refine lv_istore_n (lv' := [(3, .int (nI 0)), (0, .ref aF), (1, .int (nI sn)), (2, .int (nI (i + 1)))]) hx hb dgX4_findCharacteristic_31 rfl hl (by decide) rfl (fun ls hl => ?_)
      have hnx : (fk_n mt sn (fk_0 ch pw pr sn) (i + 1)) = fk_1 mt sn (i + 1) (fk_n mt sn (fk_0 ch pw pr sn) i) := rfl
      generalize hQe : (fk_n mt sn (fk_0 ch pw pr sn) i) = q at hP hD hnx
      have hP : va_P (dC, dI) vwCl [(aF, .inr (7, [.ref (ff 0), .int z, .ref (ff 2), .ref (ff 3), .ref (ff 4), .ref (ff 5), .ref (ff 6), .ref (ff 7)])), ((ff 4), .inl (cJ, 64, .inr (.inl mt))), ((ff 5), .inl (cJ, 64, .inr (.inl q.2.1))), ((ff 6), .inl (cJ, 64, .inr (.inl q.2.2))), ((ff 7), .inl (cJ, 9, .inr (.inl q.1)))] H := hP
      have hD : va_D A [(aF, .inr (7, [.ref (ff 0), .int z, .ref (ff 2), .ref (ff 3), .ref (ff 4), .ref (ff 5), .ref (ff 6), .ref (ff 7)])), ((ff 4), .inl (cJ, 64, .inr (.inl mt))), ((ff 5), .inl (cJ, 64, .inr (.inl q.2.1))), ((ff 6), .inl (cJ, 64, .inr (.inl q.2.2))), ((ff 7), .inl (cJ, 9, .inr (.inl q.1)))] := hD
      have K180 : ∀ (H : Heap) (locs : List Loc) (ls : Array Slot), va_P (dC, dI) vwCl [(aF, .inr (7, [.ref (ff 0), .int z, .ref (ff 2), .ref (ff 3), .ref (ff 4), .ref (ff 5), .ref (ff 6), .ref (ff 7)])), ((ff 4), .inl (cJ, 64, .inr (.inl mt))), ((ff 5), .inl (cJ, 64, .inr (.inl (fk_p sn (i + 1) q)))), ((ff 6), .inl (cJ, 64, .inr (.inl ((fk_t mt (fk_p sn (i + 1) q) q.2.2 sn sn).1)))), ((ff 7), .inl (cJ, 9, .inr (.inl q.1)))] H → va_D A [(aF, .inr (7, [.ref (ff 0), .int z, .ref (ff 2), .ref (ff 3), .ref (ff 4), .ref (ff 5), .ref (ff 6), .ref (ff 7)])), ((ff 4), .inl (cJ, 64, .inr (.inl mt))), ((ff 5), .inl (cJ, 64, .inr (.inl (fk_p sn (i + 1) q)))), ((ff 6), .inl (cJ, 64, .inr (.inl ((fk_t mt (fk_p sn (i + 1) q) q.2.2 sn sn).1)))), ((ff 7), .inl (cJ, 9, .inr (.inl q.1)))] → va_S A s.heap H locs → lv_has ls 10 [(0, .ref aF), (1, .int (nI sn)), (2, .int (nI (i + 1))), (3, .long (fk_t mt (fk_p sn (i + 1) q) q.2.2 sn sn).2)] → W p l e ({ frames := 1, cells := 0, slots := 0, locals := 60 } : Room) s m ([.ref aF, .int (nI sn)] : List Value).toArray below meth c H locs 0 0 QQ (F0 m 180 ls []) := by
        intro H locs ls hP hD hS hl
        refine lv_aload_n hx hb dgX4_findCharacteristic_180 rfl (lv_at hl 0 rfl) ?_
        refine va_get (D := (dC, dI)) (ci := 7) (v := .ref (ff 7)) (C := RX4) (T := TX4) (N := 8) hx hb hts (fun _ h => List.mem_cons_of_mem _ (List.mem_append_left _ (List.mem_append_right _ h))) hown hK hP 0 rfl rfl 7 (by decide) (hts (.fieldLink RX4 31 "KnotHouse$Faces" "characteristic" "[J") (by decide +kernel)) (fun _ h9 => h9) rfl dgX4_findCharacteristic_181 ?_
        refine lv_iload_n hx hb dgX4_findCharacteristic_184 rfl (lv_at hl 1 rfl) ?_
        refine lv_iload_n hx hb dgX4_findCharacteristic_185 rfl (lv_at hl 2 rfl) ?_
        refine lv_isub hx hb dgX4_findCharacteristic_186 ?_
        refine ow_topi (y := nI (sn - (i + 1))) (pk_sub (by omega)) ?_
        refine lv_lload_n hx hb dgX4_findCharacteristic_187 rfl (lv_at hl 3 rfl) ?_
        refine lv_lneg hx hb dgX4_findCharacteristic_188 ?_
        refine lv_iload_n hx hb dgX4_findCharacteristic_189 rfl (lv_at hl 2 rfl) ?_
        refine lv_i2l hx hb dgX4_findCharacteristic_190 rfl ?_
        refine lv_ldiv hx hb dgX4_findCharacteristic_191 (ow_l0 (by omega) (by omega)) ?_
        refine ow_lastF (j := sn - (i + 1)) (x := -(fk_t mt (fk_p sn (i + 1) q) q.2.2 sn sn).2 / (nI (i + 1)).toInt64) hx hb hK hP hD hS 4 2 rfl rfl (by omega) (by decide) dgX4_findCharacteristic_192 (fun H locs hP hD hS => ?_)
        have hP : va_P (dC, dI) vwCl [(aF, .inr (7, [.ref (ff 0), .int z, .ref (ff 2), .ref (ff 3), .ref (ff 4), .ref (ff 5), .ref (ff 6), .ref (ff 7)])), ((ff 4), .inl (cJ, 64, .inr (.inl mt))), ((ff 5), .inl (cJ, 64, .inr (.inl (fk_p sn (i + 1) q)))), ((ff 6), .inl (cJ, 64, .inr (.inl ((fk_t mt (fk_p sn (i + 1) q) q.2.2 sn sn).1)))), ((ff 7), .inl (cJ, 9, .inr (.inl (fu q.1 (sn - (i + 1)) (-(fk_t mt (fk_p sn (i + 1) q) q.2.2 sn sn).2 / (nI (i + 1)).toInt64)))))] H := hP
        have hD : va_D A [(aF, .inr (7, [.ref (ff 0), .int z, .ref (ff 2), .ref (ff 3), .ref (ff 4), .ref (ff 5), .ref (ff 6), .ref (ff 7)])), ((ff 4), .inl (cJ, 64, .inr (.inl mt))), ((ff 5), .inl (cJ, 64, .inr (.inl (fk_p sn (i + 1) q)))), ((ff 6), .inl (cJ, 64, .inr (.inl ((fk_t mt (fk_p sn (i + 1) q) q.2.2 sn sn).1)))), ((ff 7), .inl (cJ, 9, .inr (.inl (fu q.1 (sn - (i + 1)) (-(fk_t mt (fk_p sn (i + 1) q) q.2.2 sn sn).2 / (nI (i + 1)).toInt64)))))] := hD
        refine lv_aload_n hx hb dgX4_findCharacteristic_193 rfl (lv_at hl 0 rfl) ?_
        refine va_get (D := (dC, dI)) (ci := 7) (v := .ref (ff 6)) (C := RX4) (T := TX4) (N := 8) hx hb hts (fun _ h => List.mem_cons_of_mem _ (List.mem_append_left _ (List.mem_append_right _ h))) hown hK hP 0 rfl rfl 6 (by decide) (hts (.fieldLink RX4 28 "KnotHouse$Faces" "product" "[J") (by decide +kernel)) (fun _ h9 => h9) rfl dgX4_findCharacteristic_194 ?_
        refine lv_iconst (v := 0) hx hb dgX4_findCharacteristic_197 (by decide) ?_
        refine lv_aload_n hx hb dgX4_findCharacteristic_198 rfl (lv_at hl 0 rfl) ?_
        refine va_get (D := (dC, dI)) (ci := 7) (v := .ref (ff 5)) (C := RX4) (T := TX4) (N := 8) hx hb hts (fun _ h => List.mem_cons_of_mem _ (List.mem_append_left _ (List.mem_append_right _ h))) hown hK hP 0 rfl rfl 5 (by decide) (hts (.fieldLink RX4 25 "KnotHouse$Faces" "power" "[J") (by decide +kernel)) (fun _ h9 => h9) rfl dgX4_findCharacteristic_199 ?_
        refine lv_iconst (v := 0) hx hb dgX4_findCharacteristic_202 (by decide) ?_
        refine lv_aload_n hx hb dgX4_findCharacteristic_203 rfl (lv_at hl 0 rfl) ?_
        refine va_get (D := (dC, dI)) (ci := 7) (v := .ref (ff 6)) (C := RX4) (T := TX4) (N := 8) hx hb hts (fun _ h => List.mem_cons_of_mem _ (List.mem_append_left _ (List.mem_append_right _ h))) hown hK hP 0 rfl rfl 6 (by decide) (hts (.fieldLink RX4 28 "KnotHouse$Faces" "product" "[J") (by decide +kernel)) (fun _ h9 => h9) rfl dgX4_findCharacteristic_204 ?_
        refine va_alen (v := 64) hx hb hK hP 3 2 rfl rfl rfl dgX4_findCharacteristic_207 ?_
        refine va_copyl (ty := .long) hx hb (by rw [hml]; exact hl.1.symm) hown (hts (.methodLink RX4 108 arraycopyName) (by decide +kernel)) (hts (.native arraycopyName) (by decide +kernel)) (hts (.static arraycopyName) (by decide +kernel)) (hts (.initialized "java/lang/System") (by decide +kernel)) hK hP hD hS 3 2 2 2 rfl rfl rfl rfl rfl (by decide) (by decide) (by decide) (by decide) (by decide) (fun _ _ => rfl) (Nat.le_of_ble_eq_true rfl) (by decide) dgX4_findCharacteristic_208 (fun H locs hP hD hS => ?_)
        have hP : va_P (dC, dI) vwCl [(aF, .inr (7, [.ref (ff 0), .int z, .ref (ff 2), .ref (ff 3), .ref (ff 4), .ref (ff 5), .ref (ff 6), .ref (ff 7)])), ((ff 4), .inl (cJ, 64, .inr (.inl mt))), ((ff 5), .inl (cJ, 64, .inr (.inl (va_cpy (fk_t mt (fk_p sn (i + 1) q) q.2.2 sn sn).1 (fk_p sn (i + 1) q) 0 0 64)))), ((ff 6), .inl (cJ, 64, .inr (.inl ((fk_t mt (fk_p sn (i + 1) q) q.2.2 sn sn).1)))), ((ff 7), .inl (cJ, 9, .inr (.inl (fu q.1 (sn - (i + 1)) (-(fk_t mt (fk_p sn (i + 1) q) q.2.2 sn sn).2 / (nI (i + 1)).toInt64)))))] H := hP
        have hD : va_D A [(aF, .inr (7, [.ref (ff 0), .int z, .ref (ff 2), .ref (ff 3), .ref (ff 4), .ref (ff 5), .ref (ff 6), .ref (ff 7)])), ((ff 4), .inl (cJ, 64, .inr (.inl mt))), ((ff 5), .inl (cJ, 64, .inr (.inl (va_cpy (fk_t mt (fk_p sn (i + 1) q) q.2.2 sn sn).1 (fk_p sn (i + 1) q) 0 0 64)))), ((ff 6), .inl (cJ, 64, .inr (.inl ((fk_t mt (fk_p sn (i + 1) q) q.2.2 sn sn).1)))), ((ff 7), .inl (cJ, 9, .inr (.inl (fu q.1 (sn - (i + 1)) (-(fk_t mt (fk_p sn (i + 1) q) q.2.2 sn sn).2 / (nI (i + 1)).toInt64)))))] := hD
        have hP : va_P (dC, dI) vwCl [(aF, .inr (7, [.ref (ff 0), .int z, .ref (ff 2), .ref (ff 3), .ref (ff 4), .ref (ff 5), .ref (ff 6), .ref (ff 7)])), ((ff 4), .inl (cJ, 64, .inr (.inl mt))), ((ff 5), .inl (cJ, 64, .inr (.inl ((fk_n mt sn (fk_0 ch pw pr sn) (i + 1)).2.1)))), ((ff 6), .inl (cJ, 64, .inr (.inl ((fk_n mt sn (fk_0 ch pw pr sn) (i + 1)).2.2)))), ((ff 7), .inl (cJ, 9, .inr (.inl ((fk_n mt sn (fk_0 ch pw pr sn) (i + 1)).1))))] H := by rw [hnx]; exact hP
        have hD : va_D A [(aF, .inr (7, [.ref (ff 0), .int z, .ref (ff 2), .ref (ff 3), .ref (ff 4), .ref (ff 5), .ref (ff 6), .ref (ff 7)])), ((ff 4), .inl (cJ, 64, .inr (.inl mt))), ((ff 5), .inl (cJ, 64, .inr (.inl ((fk_n mt sn (fk_0 ch pw pr sn) (i + 1)).2.1)))), ((ff 6), .inl (cJ, 64, .inr (.inl ((fk_n mt sn (fk_0 ch pw pr sn) (i + 1)).2.2)))), ((ff 7), .inl (cJ, 9, .inr (.inl ((fk_n mt sn (fk_0 ch pw pr sn) (i + 1)).1))))] := by rw [hnx]; exact hD
        refine lv_iinc (v := nI ((i + 1) + 1)) (lv' := [(2, .int (nI ((i + 1) + 1))), (0, .ref aF), (1, .int (nI sn)), (3, .long (fk_t mt (fk_p sn (i + 1) q) q.2.2 sn sn).2)]) hx hb dgX4_findCharacteristic_211 hl (k := 2) rfl (nI_1 (i + 1)) (by decide) rfl (fun ls hl => ?_)
        refine lv_goto (tgt := 25) hx hb dgX4_findCharacteristic_214 (by decide) ?_
        exact ih (i + 1) (by omega) H locs ls hP hD hS (lv_sub hl [1, 2, 0] rfl)
      have L72 : ∀ (d2 j : Nat), j + d2 = sn → ∀ (H : Heap) (locs : List Loc) (ls : Array Slot), va_P (dC, dI) vwCl [(aF, .inr (7, [.ref (ff 0), .int z, .ref (ff 2), .ref (ff 3), .ref (ff 4), .ref (ff 5), .ref (ff 6), .ref (ff 7)])), ((ff 4), .inl (cJ, 64, .inr (.inl mt))), ((ff 5), .inl (cJ, 64, .inr (.inl (fk_p sn (i + 1) q)))), ((ff 6), .inl (cJ, 64, .inr (.inl ((fk_t mt (fk_p sn (i + 1) q) q.2.2 sn j).1)))), ((ff 7), .inl (cJ, 9, .inr (.inl q.1)))] H → va_D A [(aF, .inr (7, [.ref (ff 0), .int z, .ref (ff 2), .ref (ff 3), .ref (ff 4), .ref (ff 5), .ref (ff 6), .ref (ff 7)])), ((ff 4), .inl (cJ, 64, .inr (.inl mt))), ((ff 5), .inl (cJ, 64, .inr (.inl (fk_p sn (i + 1) q)))), ((ff 6), .inl (cJ, 64, .inr (.inl ((fk_t mt (fk_p sn (i + 1) q) q.2.2 sn j).1)))), ((ff 7), .inl (cJ, 9, .inr (.inl q.1)))] → va_S A s.heap H locs → lv_has ls 10 [(0, .ref aF), (1, .int (nI sn)), (2, .int (nI (i + 1))), (3, .long (fk_t mt (fk_p sn (i + 1) q) q.2.2 sn j).2), (5, .int (nI j))] → W p l e ({ frames := 1, cells := 0, slots := 0, locals := 60 } : Room) s m ([.ref aF, .int (nI sn)] : List Value).toArray below meth c H locs 0 0 QQ (F0 m 72 ls []) := by
        intro d2
        induction d2 with
        | zero =>
          intro j hj H locs ls hP hD hS hl
          have hje : j = sn := by omega
          rw [hje] at hP hD hl
          refine lv_iload hx hb dgX4_findCharacteristic_72 (lv_at hl 4 rfl) ?_
          refine lv_iload_n hx hb dgX4_findCharacteristic_74 rfl (lv_at hl 1 rfl) ?_
          refine lv_icmp_ge (tgt := 180) hx hb dgX4_findCharacteristic_75 (by decide) (fun _ => ?_) (fun c9 => absurd (nI_le (a := sn) (b := sn) (by omega) (by omega)) c9)
          exact K180 H locs ls hP hD hS (lv_sub hl [0, 1, 2, 3] rfl)
        | succ d2 ih2 =>
          intro j hj H locs ls hP hD hS hl
          refine lv_iload hx hb dgX4_findCharacteristic_72 (lv_at hl 4 rfl) ?_
          refine lv_iload_n hx hb dgX4_findCharacteristic_74 rfl (lv_at hl 1 rfl) ?_
          refine lv_icmp_ge (tgt := 180) hx hb dgX4_findCharacteristic_75 (by decide) (fun c9 => absurd c9 (nI_ge (a := j) (b := sn) (by omega) (by omega))) (fun _ => ?_)
          refine lv_iconst (v := 0) hx hb dgX4_findCharacteristic_78 (by decide) ?_
          refine ow_topi (y := nI 0) (by decide) ?_
          refine lv_istore (lv' := [(6, .int (nI 0)), (0, .ref aF), (1, .int (nI sn)), (2, .int (nI (i + 1))), (3, .long (fk_t mt (fk_p sn (i + 1) q) q.2.2 sn j).2), (5, .int (nI j))]) hx hb dgX4_findCharacteristic_79 hl (by decide) rfl (fun ls hl => ?_)
          have L81 : ∀ (d3 h : Nat), h + d3 = sn → ∀ (H : Heap) (locs : List Loc) (ls : Array Slot), va_P (dC, dI) vwCl [(aF, .inr (7, [.ref (ff 0), .int z, .ref (ff 2), .ref (ff 3), .ref (ff 4), .ref (ff 5), .ref (ff 6), .ref (ff 7)])), ((ff 4), .inl (cJ, 64, .inr (.inl mt))), ((ff 5), .inl (cJ, 64, .inr (.inl (fk_p sn (i + 1) q)))), ((ff 6), .inl (cJ, 64, .inr (.inl (fk_r mt (fk_p sn (i + 1) q) (fk_t mt (fk_p sn (i + 1) q) q.2.2 sn j).1 sn j h)))), ((ff 7), .inl (cJ, 9, .inr (.inl q.1)))] H → va_D A [(aF, .inr (7, [.ref (ff 0), .int z, .ref (ff 2), .ref (ff 3), .ref (ff 4), .ref (ff 5), .ref (ff 6), .ref (ff 7)])), ((ff 4), .inl (cJ, 64, .inr (.inl mt))), ((ff 5), .inl (cJ, 64, .inr (.inl (fk_p sn (i + 1) q)))), ((ff 6), .inl (cJ, 64, .inr (.inl (fk_r mt (fk_p sn (i + 1) q) (fk_t mt (fk_p sn (i + 1) q) q.2.2 sn j).1 sn j h)))), ((ff 7), .inl (cJ, 9, .inr (.inl q.1)))] → va_S A s.heap H locs → lv_has ls 10 [(0, .ref aF), (1, .int (nI sn)), (2, .int (nI (i + 1))), (3, .long (fk_t mt (fk_p sn (i + 1) q) q.2.2 sn j).2), (5, .int (nI j)), (6, .int (nI h))] → W p l e ({ frames := 1, cells := 0, slots := 0, locals := 60 } : Room) s m ([.ref aF, .int (nI sn)] : List Value).toArray below meth c H locs 0 0 QQ (F0 m 81 ls []) := by
            intro d3
            induction d3 with
            | zero =>
              intro h hh H locs ls hP hD hS hl
              have hhe : h = sn := by omega
              rw [hhe] at hP hD
              refine lv_iload hx hb dgX4_findCharacteristic_81 (lv_at hl 5 rfl) ?_
              refine lv_iload_n hx hb dgX4_findCharacteristic_83 rfl (lv_at hl 1 rfl) ?_
              refine lv_icmp_ge (tgt := 158) hx hb dgX4_findCharacteristic_84 (by decide) (fun _ => ?_) (fun c9 => absurd (nI_le (a := sn) (b := h) (by omega) (by omega)) c9)
              refine lv_lload_n hx hb dgX4_findCharacteristic_158 rfl (lv_at hl 3 rfl) ?_
              refine lv_aload_n hx hb dgX4_findCharacteristic_159 rfl (lv_at hl 0 rfl) ?_
              refine va_get (D := (dC, dI)) (ci := 7) (v := .ref (ff 6)) (C := RX4) (T := TX4) (N := 8) hx hb hts (fun _ h => List.mem_cons_of_mem _ (List.mem_append_left _ (List.mem_append_right _ h))) hown hK hP 0 rfl rfl 6 (by decide) (hts (.fieldLink RX4 28 "KnotHouse$Faces" "product" "[J") (by decide +kernel)) (fun _ h9 => h9) rfl dgX4_findCharacteristic_160 ?_
              refine lv_iload hx hb dgX4_findCharacteristic_163 (lv_at hl 4 rfl) ?_
              refine lv_bipush (v := 8) hx hb dgX4_findCharacteristic_165 (by decide) ?_
              refine lv_imul hx hb dgX4_findCharacteristic_167 ?_
              refine ow_topi (y := nI (j * 8)) (pk_mul j 8) ?_
              refine lv_iload hx hb dgX4_findCharacteristic_168 (lv_at hl 4 rfl) ?_
              refine lv_iadd hx hb dgX4_findCharacteristic_170 ?_
              refine ow_topi (y := nI (j * 8 + j)) (nI_add (j * 8) j) ?_
              refine va_lald hx hb hK hP 3 2 rfl rfl (vp_in_nI (n := j * 8 + j) (N := 64) (by omega) (by decide)) dgX4_findCharacteristic_171 ?_
              refine ow_topl (y := (fk_r mt (fk_p sn (i + 1) q) (fk_t mt (fk_p sn (i + 1) q) q.2.2 sn j).1 sn j sn) (j * 8 + j)) (congrArg (fk_r mt (fk_p sn (i + 1) q) (fk_t mt (fk_p sn (i + 1) q) q.2.2 sn j).1 sn j sn) (nI_clamp (n := j * 8 + j) (Nat.lt_trans (m := 64) (by omega) (by decide)))) ?_
              refine lv_ladd hx hb dgX4_findCharacteristic_172 ?_
              refine lv_lstore_n (lv' := [(3, .long ((fk_t mt (fk_p sn (i + 1) q) q.2.2 sn j).2 + ((fk_r mt (fk_p sn (i + 1) q) (fk_t mt (fk_p sn (i + 1) q) q.2.2 sn j).1 sn j sn) (j * 8 + j)))), (0, .ref aF), (1, .int (nI sn)), (2, .int (nI (i + 1))), (5, .int (nI j)), (6, .int (nI h))]) hx hb dgX4_findCharacteristic_173 rfl hl (by decide) rfl (fun ls hl => ?_)
              have hP : va_P (dC, dI) vwCl [(aF, .inr (7, [.ref (ff 0), .int z, .ref (ff 2), .ref (ff 3), .ref (ff 4), .ref (ff 5), .ref (ff 6), .ref (ff 7)])), ((ff 4), .inl (cJ, 64, .inr (.inl mt))), ((ff 5), .inl (cJ, 64, .inr (.inl (fk_p sn (i + 1) q)))), ((ff 6), .inl (cJ, 64, .inr (.inl ((fk_t mt (fk_p sn (i + 1) q) q.2.2 sn (j + 1)).1)))), ((ff 7), .inl (cJ, 9, .inr (.inl q.1)))] H := hP
              have hD : va_D A [(aF, .inr (7, [.ref (ff 0), .int z, .ref (ff 2), .ref (ff 3), .ref (ff 4), .ref (ff 5), .ref (ff 6), .ref (ff 7)])), ((ff 4), .inl (cJ, 64, .inr (.inl mt))), ((ff 5), .inl (cJ, 64, .inr (.inl (fk_p sn (i + 1) q)))), ((ff 6), .inl (cJ, 64, .inr (.inl ((fk_t mt (fk_p sn (i + 1) q) q.2.2 sn (j + 1)).1)))), ((ff 7), .inl (cJ, 9, .inr (.inl q.1)))] := hD
              refine lv_iinc (v := nI (j + 1)) (lv' := [(5, .int (nI (j + 1))), (3, .long ((fk_t mt (fk_p sn (i + 1) q) q.2.2 sn j).2 + ((fk_r mt (fk_p sn (i + 1) q) (fk_t mt (fk_p sn (i + 1) q) q.2.2 sn j).1 sn j sn) (j * 8 + j)))), (0, .ref aF), (1, .int (nI sn)), (2, .int (nI (i + 1))), (6, .int (nI h))]) hx hb dgX4_findCharacteristic_174 hl (k := 4) rfl (nI_1 j) (by decide) rfl (fun ls hl => ?_)
              refine lv_goto (tgt := 72) hx hb dgX4_findCharacteristic_177 (by decide) ?_
              exact ih2 (j + 1) (by omega) H locs ls hP hD hS (lv_sub hl [2, 3, 4, 1, 0] rfl)
            | succ d3 ih3 =>
              intro h hh H locs ls hP hD hS hl
              refine lv_iload hx hb dgX4_findCharacteristic_81 (lv_at hl 5 rfl) ?_
              refine lv_iload_n hx hb dgX4_findCharacteristic_83 rfl (lv_at hl 1 rfl) ?_
              refine lv_icmp_ge (tgt := 158) hx hb dgX4_findCharacteristic_84 (by decide) (fun c9 => absurd c9 (nI_ge (a := h) (b := sn) (by omega) (by omega))) (fun _ => ?_)
              refine lv_lconst (v := 0) hx hb dgX4_findCharacteristic_87 rfl ?_
              refine lv_lstore (lv' := [(7, .long 0), (0, .ref aF), (1, .int (nI sn)), (2, .int (nI (i + 1))), (3, .long (fk_t mt (fk_p sn (i + 1) q) q.2.2 sn j).2), (5, .int (nI j)), (6, .int (nI h))]) hx hb dgX4_findCharacteristic_88 hl (by decide) rfl (fun ls hl => ?_)
              refine lv_iconst (v := 0) hx hb dgX4_findCharacteristic_90 (by decide) ?_
              refine ow_topi (y := nI 0) (by decide) ?_
              refine lv_istore (lv' := [(9, .int (nI 0)), (7, .long 0), (0, .ref aF), (1, .int (nI sn)), (2, .int (nI (i + 1))), (3, .long (fk_t mt (fk_p sn (i + 1) q) q.2.2 sn j).2), (5, .int (nI j)), (6, .int (nI h))]) hx hb dgX4_findCharacteristic_91 hl (by decide) rfl (fun ls hl => ?_)
              have L93 : ∀ (d4 g9 : Nat), g9 + d4 = sn → ∀ (H : Heap) (locs : List Loc) (ls : Array Slot), va_P (dC, dI) vwCl [(aF, .inr (7, [.ref (ff 0), .int z, .ref (ff 2), .ref (ff 3), .ref (ff 4), .ref (ff 5), .ref (ff 6), .ref (ff 7)])), ((ff 4), .inl (cJ, 64, .inr (.inl mt))), ((ff 5), .inl (cJ, 64, .inr (.inl (fk_p sn (i + 1) q)))), ((ff 6), .inl (cJ, 64, .inr (.inl (fk_r mt (fk_p sn (i + 1) q) (fk_t mt (fk_p sn (i + 1) q) q.2.2 sn j).1 sn j h)))), ((ff 7), .inl (cJ, 9, .inr (.inl q.1)))] H → va_D A [(aF, .inr (7, [.ref (ff 0), .int z, .ref (ff 2), .ref (ff 3), .ref (ff 4), .ref (ff 5), .ref (ff 6), .ref (ff 7)])), ((ff 4), .inl (cJ, 64, .inr (.inl mt))), ((ff 5), .inl (cJ, 64, .inr (.inl (fk_p sn (i + 1) q)))), ((ff 6), .inl (cJ, 64, .inr (.inl (fk_r mt (fk_p sn (i + 1) q) (fk_t mt (fk_p sn (i + 1) q) q.2.2 sn j).1 sn j h)))), ((ff 7), .inl (cJ, 9, .inr (.inl q.1)))] → va_S A s.heap H locs → lv_has ls 10 [(0, .ref aF), (1, .int (nI sn)), (2, .int (nI (i + 1))), (3, .long (fk_t mt (fk_p sn (i + 1) q) q.2.2 sn j).2), (5, .int (nI j)), (6, .int (nI h)), (7, .long (fk_s mt (fk_p sn (i + 1) q) j h g9)), (9, .int (nI g9))] → W p l e ({ frames := 1, cells := 0, slots := 0, locals := 60 } : Room) s m ([.ref aF, .int (nI sn)] : List Value).toArray below meth c H locs 0 0 QQ (F0 m 93 ls []) := by
                intro d4
                induction d4 with
                | zero =>
                  intro g9 hg H locs ls hP hD hS hl
                  have hge : g9 = sn := by omega
                  rw [hge] at hl
                  refine lv_iload hx hb dgX4_findCharacteristic_93 (lv_at hl 7 rfl) ?_
                  refine lv_iload_n hx hb dgX4_findCharacteristic_95 rfl (lv_at hl 1 rfl) ?_
                  refine lv_icmp_ge (tgt := 137) hx hb dgX4_findCharacteristic_96 (by decide) (fun _ => ?_) (fun c9 => absurd (nI_le (a := sn) (b := sn) (by omega) (by omega)) c9)
                  refine lv_aload_n hx hb dgX4_findCharacteristic_137 rfl (lv_at hl 0 rfl) ?_
                  refine va_get (D := (dC, dI)) (ci := 7) (v := .ref (ff 6)) (C := RX4) (T := TX4) (N := 8) hx hb hts (fun _ h => List.mem_cons_of_mem _ (List.mem_append_left _ (List.mem_append_right _ h))) hown hK hP 0 rfl rfl 6 (by decide) (hts (.fieldLink RX4 28 "KnotHouse$Faces" "product" "[J") (by decide +kernel)) (fun _ h9 => h9) rfl dgX4_findCharacteristic_138 ?_
                  refine lv_iload hx hb dgX4_findCharacteristic_141 (lv_at hl 4 rfl) ?_
                  refine lv_bipush (v := 8) hx hb dgX4_findCharacteristic_143 (by decide) ?_
                  refine lv_imul hx hb dgX4_findCharacteristic_145 ?_
                  refine ow_topi (y := nI (j * 8)) (pk_mul j 8) ?_
                  refine lv_iload hx hb dgX4_findCharacteristic_146 (lv_at hl 5 rfl) ?_
                  refine lv_iadd hx hb dgX4_findCharacteristic_148 ?_
                  refine ow_topi (y := nI (j * 8 + h)) (nI_add (j * 8) h) ?_
                  refine lv_lload hx hb dgX4_findCharacteristic_149 (lv_at hl 6 rfl) ?_
                  refine ow_lastF (j := j * 8 + h) (x := fk_s mt (fk_p sn (i + 1) q) j h sn) hx hb hK hP hD hS 3 2 rfl rfl (by omega) (by decide) dgX4_findCharacteristic_151 (fun H locs hP hD hS => ?_)
                  have hP : va_P (dC, dI) vwCl [(aF, .inr (7, [.ref (ff 0), .int z, .ref (ff 2), .ref (ff 3), .ref (ff 4), .ref (ff 5), .ref (ff 6), .ref (ff 7)])), ((ff 4), .inl (cJ, 64, .inr (.inl mt))), ((ff 5), .inl (cJ, 64, .inr (.inl (fk_p sn (i + 1) q)))), ((ff 6), .inl (cJ, 64, .inr (.inl (fu (fk_r mt (fk_p sn (i + 1) q) (fk_t mt (fk_p sn (i + 1) q) q.2.2 sn j).1 sn j h) (j * 8 + h) (fk_s mt (fk_p sn (i + 1) q) j h sn))))), ((ff 7), .inl (cJ, 9, .inr (.inl q.1)))] H := hP
                  have hD : va_D A [(aF, .inr (7, [.ref (ff 0), .int z, .ref (ff 2), .ref (ff 3), .ref (ff 4), .ref (ff 5), .ref (ff 6), .ref (ff 7)])), ((ff 4), .inl (cJ, 64, .inr (.inl mt))), ((ff 5), .inl (cJ, 64, .inr (.inl (fk_p sn (i + 1) q)))), ((ff 6), .inl (cJ, 64, .inr (.inl (fu (fk_r mt (fk_p sn (i + 1) q) (fk_t mt (fk_p sn (i + 1) q) q.2.2 sn j).1 sn j h) (j * 8 + h) (fk_s mt (fk_p sn (i + 1) q) j h sn))))), ((ff 7), .inl (cJ, 9, .inr (.inl q.1)))] := hD
                  have hP : va_P (dC, dI) vwCl [(aF, .inr (7, [.ref (ff 0), .int z, .ref (ff 2), .ref (ff 3), .ref (ff 4), .ref (ff 5), .ref (ff 6), .ref (ff 7)])), ((ff 4), .inl (cJ, 64, .inr (.inl mt))), ((ff 5), .inl (cJ, 64, .inr (.inl (fk_p sn (i + 1) q)))), ((ff 6), .inl (cJ, 64, .inr (.inl (fk_r mt (fk_p sn (i + 1) q) (fk_t mt (fk_p sn (i + 1) q) q.2.2 sn j).1 sn j (h + 1))))), ((ff 7), .inl (cJ, 9, .inr (.inl q.1)))] H := hP
                  have hD : va_D A [(aF, .inr (7, [.ref (ff 0), .int z, .ref (ff 2), .ref (ff 3), .ref (ff 4), .ref (ff 5), .ref (ff 6), .ref (ff 7)])), ((ff 4), .inl (cJ, 64, .inr (.inl mt))), ((ff 5), .inl (cJ, 64, .inr (.inl (fk_p sn (i + 1) q)))), ((ff 6), .inl (cJ, 64, .inr (.inl (fk_r mt (fk_p sn (i + 1) q) (fk_t mt (fk_p sn (i + 1) q) q.2.2 sn j).1 sn j (h + 1))))), ((ff 7), .inl (cJ, 9, .inr (.inl q.1)))] := hD
                  refine lv_iinc (v := nI (h + 1)) (lv' := [(6, .int (nI (h + 1))), (0, .ref aF), (1, .int (nI sn)), (2, .int (nI (i + 1))), (3, .long (fk_t mt (fk_p sn (i + 1) q) q.2.2 sn j).2), (5, .int (nI j)), (7, .long (fk_s mt (fk_p sn (i + 1) q) j h sn)), (9, .int (nI sn))]) hx hb dgX4_findCharacteristic_152 hl (k := 5) rfl (nI_1 h) (by decide) rfl (fun ls hl => ?_)
                  refine lv_goto (tgt := 81) hx hb dgX4_findCharacteristic_155 (by decide) ?_
                  exact ih3 (h + 1) (by omega) H locs ls hP hD hS (lv_sub hl [1, 2, 3, 4, 5, 0] rfl)
                | succ d4 ih4 =>
                  intro g9 hg H locs ls hP hD hS hl
                  refine lv_iload hx hb dgX4_findCharacteristic_93 (lv_at hl 7 rfl) ?_
                  refine lv_iload_n hx hb dgX4_findCharacteristic_95 rfl (lv_at hl 1 rfl) ?_
                  refine lv_icmp_ge (tgt := 137) hx hb dgX4_findCharacteristic_96 (by decide) (fun c9 => absurd c9 (nI_ge (a := g9) (b := sn) (by omega) (by omega))) (fun _ => ?_)
                  refine lv_lload hx hb dgX4_findCharacteristic_99 (lv_at hl 6 rfl) ?_
                  refine lv_aload_n hx hb dgX4_findCharacteristic_101 rfl (lv_at hl 0 rfl) ?_
                  refine va_get (D := (dC, dI)) (ci := 7) (v := .ref (ff 4)) (C := RX4) (T := TX4) (N := 8) hx hb hts (fun _ h => List.mem_cons_of_mem _ (List.mem_append_left _ (List.mem_append_right _ h))) hown hK hP 0 rfl rfl 4 (by decide) (hts (.fieldLink RX4 21 "KnotHouse$Faces" "matrix" "[J") (by decide +kernel)) (fun _ h9 => h9) rfl dgX4_findCharacteristic_102 ?_
                  refine lv_iload hx hb dgX4_findCharacteristic_105 (lv_at hl 4 rfl) ?_
                  refine lv_bipush (v := 8) hx hb dgX4_findCharacteristic_107 (by decide) ?_
                  refine lv_imul hx hb dgX4_findCharacteristic_109 ?_
                  refine ow_topi (y := nI (j * 8)) (pk_mul j 8) ?_
                  refine lv_iload hx hb dgX4_findCharacteristic_110 (lv_at hl 7 rfl) ?_
                  refine lv_iadd hx hb dgX4_findCharacteristic_112 ?_
                  refine ow_topi (y := nI (j * 8 + g9)) (nI_add (j * 8) g9) ?_
                  refine va_lald hx hb hK hP 1 2 rfl rfl (vp_in_nI (n := j * 8 + g9) (N := 64) (by omega) (by decide)) dgX4_findCharacteristic_113 ?_
                  refine ow_topl (y := mt (j * 8 + g9)) (congrArg mt (nI_clamp (n := j * 8 + g9) (Nat.lt_trans (m := 64) (by omega) (by decide)))) ?_
                  refine lv_aload_n hx hb dgX4_findCharacteristic_114 rfl (lv_at hl 0 rfl) ?_
                  refine va_get (D := (dC, dI)) (ci := 7) (v := .ref (ff 5)) (C := RX4) (T := TX4) (N := 8) hx hb hts (fun _ h => List.mem_cons_of_mem _ (List.mem_append_left _ (List.mem_append_right _ h))) hown hK hP 0 rfl rfl 5 (by decide) (hts (.fieldLink RX4 25 "KnotHouse$Faces" "power" "[J") (by decide +kernel)) (fun _ h9 => h9) rfl dgX4_findCharacteristic_115 ?_
                  refine lv_iload hx hb dgX4_findCharacteristic_118 (lv_at hl 7 rfl) ?_
                  refine lv_bipush (v := 8) hx hb dgX4_findCharacteristic_120 (by decide) ?_
                  refine lv_imul hx hb dgX4_findCharacteristic_122 ?_
                  refine ow_topi (y := nI (g9 * 8)) (pk_mul g9 8) ?_
                  refine lv_iload hx hb dgX4_findCharacteristic_123 (lv_at hl 5 rfl) ?_
                  refine lv_iadd hx hb dgX4_findCharacteristic_125 ?_
                  refine ow_topi (y := nI (g9 * 8 + h)) (nI_add (g9 * 8) h) ?_
                  refine va_lald hx hb hK hP 2 2 rfl rfl (vp_in_nI (n := g9 * 8 + h) (N := 64) (by omega) (by decide)) dgX4_findCharacteristic_126 ?_
                  refine ow_topl (y := (fk_p sn (i + 1) q) (g9 * 8 + h)) (congrArg (fk_p sn (i + 1) q) (nI_clamp (n := g9 * 8 + h) (Nat.lt_trans (m := 64) (by omega) (by decide)))) ?_
                  refine lv_lmul hx hb dgX4_findCharacteristic_127 ?_
                  refine lv_ladd hx hb dgX4_findCharacteristic_128 ?_
                  refine lv_lstore (lv' := [(7, .long ((fk_s mt (fk_p sn (i + 1) q) j h g9) + ((mt (j * 8 + g9)) * ((fk_p sn (i + 1) q) (g9 * 8 + h))))), (0, .ref aF), (1, .int (nI sn)), (2, .int (nI (i + 1))), (3, .long (fk_t mt (fk_p sn (i + 1) q) q.2.2 sn j).2), (5, .int (nI j)), (6, .int (nI h)), (9, .int (nI g9))]) hx hb dgX4_findCharacteristic_129 hl (by decide) rfl (fun ls hl => ?_)
                  refine lv_iinc (v := nI (g9 + 1)) (lv' := [(9, .int (nI (g9 + 1))), (7, .long ((fk_s mt (fk_p sn (i + 1) q) j h g9) + ((mt (j * 8 + g9)) * ((fk_p sn (i + 1) q) (g9 * 8 + h))))), (0, .ref aF), (1, .int (nI sn)), (2, .int (nI (i + 1))), (3, .long (fk_t mt (fk_p sn (i + 1) q) q.2.2 sn j).2), (5, .int (nI j)), (6, .int (nI h))]) hx hb dgX4_findCharacteristic_131 hl (k := 7) rfl (nI_1 g9) (by decide) rfl (fun ls hl => ?_)
                  refine lv_goto (tgt := 93) hx hb dgX4_findCharacteristic_134 (by decide) ?_
                  exact ih4 (g9 + 1) (by omega) H locs ls hP hD hS (lv_sub hl [2, 3, 4, 5, 6, 7, 1, 0] rfl)
              exact L93 sn 0 (by omega) H locs ls hP hD hS (lv_sub hl [2, 3, 4, 5, 6, 7, 1, 0] rfl)
          exact L81 sn 0 (by omega) H locs ls hP hD hS (lv_sub hl [1, 2, 3, 4, 5, 0] rfl)
      have L32 : ∀ (d2 j : Nat), j + d2 = sn → ∀ (H : Heap) (locs : List Loc) (ls : Array Slot), va_P (dC, dI) vwCl [(aF, .inr (7, [.ref (ff 0), .int z, .ref (ff 2), .ref (ff 3), .ref (ff 4), .ref (ff 5), .ref (ff 6), .ref (ff 7)])), ((ff 4), .inl (cJ, 64, .inr (.inl mt))), ((ff 5), .inl (cJ, 64, .inr (.inl (fk_d q.2.1 (q.1 (sn - (i + 1) + 1)) j)))), ((ff 6), .inl (cJ, 64, .inr (.inl q.2.2))), ((ff 7), .inl (cJ, 9, .inr (.inl q.1)))] H → va_D A [(aF, .inr (7, [.ref (ff 0), .int z, .ref (ff 2), .ref (ff 3), .ref (ff 4), .ref (ff 5), .ref (ff 6), .ref (ff 7)])), ((ff 4), .inl (cJ, 64, .inr (.inl mt))), ((ff 5), .inl (cJ, 64, .inr (.inl (fk_d q.2.1 (q.1 (sn - (i + 1) + 1)) j)))), ((ff 6), .inl (cJ, 64, .inr (.inl q.2.2))), ((ff 7), .inl (cJ, 9, .inr (.inl q.1)))] → va_S A s.heap H locs → lv_has ls 10 [(0, .ref aF), (1, .int (nI sn)), (2, .int (nI (i + 1))), (3, .int (nI j))] → W p l e ({ frames := 1, cells := 0, slots := 0, locals := 60 } : Room) s m ([.ref aF, .int (nI sn)] : List Value).toArray below meth c H locs 0 0 QQ (F0 m 32 ls []) := by
        intro d2
        induction d2 with
        | zero =>
          intro j hj H locs ls hP hD hS hl
          have hje : j = sn := by omega
          rw [hje] at hP hD
          refine lv_iload_n hx hb dgX4_findCharacteristic_32 rfl (lv_at hl 3 rfl) ?_
          refine lv_iload_n hx hb dgX4_findCharacteristic_33 rfl (lv_at hl 1 rfl) ?_
          refine lv_icmp_ge (tgt := 67) hx hb dgX4_findCharacteristic_34 (by decide) (fun _ => ?_) (fun c9 => absurd (nI_le (a := sn) (b := j) (by omega) (by omega)) c9)
          refine lv_lconst (v := 0) hx hb dgX4_findCharacteristic_67 rfl ?_
          refine lv_lstore_n (lv' := [(3, .long 0), (0, .ref aF), (1, .int (nI sn)), (2, .int (nI (i + 1)))]) hx hb dgX4_findCharacteristic_68 rfl hl (by decide) rfl (fun ls hl => ?_)
          refine lv_iconst (v := 0) hx hb dgX4_findCharacteristic_69 (by decide) ?_
          refine ow_topi (y := nI 0) (by decide) ?_
          refine lv_istore (lv' := [(5, .int (nI 0)), (3, .long 0), (0, .ref aF), (1, .int (nI sn)), (2, .int (nI (i + 1)))]) hx hb dgX4_findCharacteristic_70 hl (by decide) rfl (fun ls hl => ?_)
          exact L72 sn 0 (by omega) H locs ls hP hD hS (lv_sub hl [2, 3, 4, 1, 0] rfl)
        | succ d2 ih2 =>
          intro j hj H locs ls hP hD hS hl
          refine lv_iload_n hx hb dgX4_findCharacteristic_32 rfl (lv_at hl 3 rfl) ?_
          refine lv_iload_n hx hb dgX4_findCharacteristic_33 rfl (lv_at hl 1 rfl) ?_
          refine lv_icmp_ge (tgt := 67) hx hb dgX4_findCharacteristic_34 (by decide) (fun c9 => absurd c9 (nI_ge (a := j) (b := sn) (by omega) (by omega))) (fun _ => ?_)
          refine lv_aload_n hx hb dgX4_findCharacteristic_37 rfl (lv_at hl 0 rfl) ?_
          refine va_get (D := (dC, dI)) (ci := 7) (v := .ref (ff 5)) (C := RX4) (T := TX4) (N := 8) hx hb hts (fun _ h => List.mem_cons_of_mem _ (List.mem_append_left _ (List.mem_append_right _ h))) hown hK hP 0 rfl rfl 5 (by decide) (hts (.fieldLink RX4 25 "KnotHouse$Faces" "power" "[J") (by decide +kernel)) (fun _ h9 => h9) rfl dgX4_findCharacteristic_38 ?_
          refine lv_iload_n hx hb dgX4_findCharacteristic_41 rfl (lv_at hl 3 rfl) ?_
          refine lv_bipush (v := 8) hx hb dgX4_findCharacteristic_42 (by decide) ?_
          refine lv_imul hx hb dgX4_findCharacteristic_44 ?_
          refine ow_topi (y := nI (j * 8)) (pk_mul j 8) ?_
          refine lv_iload_n hx hb dgX4_findCharacteristic_45 rfl (lv_at hl 3 rfl) ?_
          refine lv_iadd hx hb dgX4_findCharacteristic_46 ?_
          refine ow_topi (y := nI (j * 8 + j)) (nI_add (j * 8) j) ?_
          refine lv_dup2_11 hx hb dgX4_findCharacteristic_47 rfl rfl ?_
          refine va_lald hx hb hK hP 2 2 rfl rfl (vp_in_nI (n := j * 8 + j) (N := 64) (by omega) (by decide)) dgX4_findCharacteristic_48 ?_
          refine ow_topl (y := (fk_d q.2.1 (q.1 (sn - (i + 1) + 1)) j) (j * 8 + j)) (congrArg (fk_d q.2.1 (q.1 (sn - (i + 1) + 1)) j) (nI_clamp (n := j * 8 + j) (Nat.lt_trans (m := 64) (by omega) (by decide)))) ?_
          refine lv_aload_n hx hb dgX4_findCharacteristic_49 rfl (lv_at hl 0 rfl) ?_
          refine va_get (D := (dC, dI)) (ci := 7) (v := .ref (ff 7)) (C := RX4) (T := TX4) (N := 8) hx hb hts (fun _ h => List.mem_cons_of_mem _ (List.mem_append_left _ (List.mem_append_right _ h))) hown hK hP 0 rfl rfl 7 (by decide) (hts (.fieldLink RX4 31 "KnotHouse$Faces" "characteristic" "[J") (by decide +kernel)) (fun _ h9 => h9) rfl dgX4_findCharacteristic_50 ?_
          refine lv_iload_n hx hb dgX4_findCharacteristic_53 rfl (lv_at hl 1 rfl) ?_
          refine lv_iload_n hx hb dgX4_findCharacteristic_54 rfl (lv_at hl 2 rfl) ?_
          refine lv_isub hx hb dgX4_findCharacteristic_55 ?_
          refine ow_topi (y := nI (sn - (i + 1))) (pk_sub (by omega)) ?_
          refine lv_iconst (v := 1) hx hb dgX4_findCharacteristic_56 (by decide) ?_
          refine lv_iadd hx hb dgX4_findCharacteristic_57 ?_
          refine ow_topi (y := nI (sn - (i + 1) + 1)) (nI_1 (sn - (i + 1))) ?_
          refine va_lald hx hb hK hP 4 2 rfl rfl (vp_in_nI (n := sn - (i + 1) + 1) (N := 9) (by omega) (by decide)) dgX4_findCharacteristic_58 ?_
          refine ow_topl (y := q.1 (sn - (i + 1) + 1)) (congrArg q.1 (nI_clamp (n := sn - (i + 1) + 1) (Nat.lt_trans (m := 9) (by omega) (by decide)))) ?_
          refine lv_ladd hx hb dgX4_findCharacteristic_59 ?_
          refine ow_lastF (j := j * 8 + j) (x := (fk_d q.2.1 (q.1 (sn - (i + 1) + 1)) j) (j * 8 + j) + (q.1 (sn - (i + 1) + 1))) hx hb hK hP hD hS 2 2 rfl rfl (by omega) (by decide) dgX4_findCharacteristic_60 (fun H locs hP hD hS => ?_)
          have hP : va_P (dC, dI) vwCl [(aF, .inr (7, [.ref (ff 0), .int z, .ref (ff 2), .ref (ff 3), .ref (ff 4), .ref (ff 5), .ref (ff 6), .ref (ff 7)])), ((ff 4), .inl (cJ, 64, .inr (.inl mt))), ((ff 5), .inl (cJ, 64, .inr (.inl (fu (fk_d q.2.1 (q.1 (sn - (i + 1) + 1)) j) (j * 8 + j) ((fk_d q.2.1 (q.1 (sn - (i + 1) + 1)) j) (j * 8 + j) + (q.1 (sn - (i + 1) + 1))))))), ((ff 6), .inl (cJ, 64, .inr (.inl q.2.2))), ((ff 7), .inl (cJ, 9, .inr (.inl q.1)))] H := hP
          have hD : va_D A [(aF, .inr (7, [.ref (ff 0), .int z, .ref (ff 2), .ref (ff 3), .ref (ff 4), .ref (ff 5), .ref (ff 6), .ref (ff 7)])), ((ff 4), .inl (cJ, 64, .inr (.inl mt))), ((ff 5), .inl (cJ, 64, .inr (.inl (fu (fk_d q.2.1 (q.1 (sn - (i + 1) + 1)) j) (j * 8 + j) ((fk_d q.2.1 (q.1 (sn - (i + 1) + 1)) j) (j * 8 + j) + (q.1 (sn - (i + 1) + 1))))))), ((ff 6), .inl (cJ, 64, .inr (.inl q.2.2))), ((ff 7), .inl (cJ, 9, .inr (.inl q.1)))] := hD
          have hP : va_P (dC, dI) vwCl [(aF, .inr (7, [.ref (ff 0), .int z, .ref (ff 2), .ref (ff 3), .ref (ff 4), .ref (ff 5), .ref (ff 6), .ref (ff 7)])), ((ff 4), .inl (cJ, 64, .inr (.inl mt))), ((ff 5), .inl (cJ, 64, .inr (.inl (fk_d q.2.1 (q.1 (sn - (i + 1) + 1)) (j + 1))))), ((ff 6), .inl (cJ, 64, .inr (.inl q.2.2))), ((ff 7), .inl (cJ, 9, .inr (.inl q.1)))] H := hP
          have hD : va_D A [(aF, .inr (7, [.ref (ff 0), .int z, .ref (ff 2), .ref (ff 3), .ref (ff 4), .ref (ff 5), .ref (ff 6), .ref (ff 7)])), ((ff 4), .inl (cJ, 64, .inr (.inl mt))), ((ff 5), .inl (cJ, 64, .inr (.inl (fk_d q.2.1 (q.1 (sn - (i + 1) + 1)) (j + 1))))), ((ff 6), .inl (cJ, 64, .inr (.inl q.2.2))), ((ff 7), .inl (cJ, 9, .inr (.inl q.1)))] := hD
          refine lv_iinc (v := nI (j + 1)) (lv' := [(3, .int (nI (j + 1))), (0, .ref aF), (1, .int (nI sn)), (2, .int (nI (i + 1)))]) hx hb dgX4_findCharacteristic_61 hl (k := 3) rfl (nI_1 j) (by decide) rfl (fun ls hl => ?_)
          refine lv_goto (tgt := 32) hx hb dgX4_findCharacteristic_64 (by decide) ?_
          exact ih2 (j + 1) (by omega) H locs ls hP hD hS (lv_sub hl [1, 2, 3, 0] rfl)
      exact L32 sn 0 (by omega) H locs ls hP hD hS (lv_sub hl [1, 2, 3, 0] rfl)
  refine lv_aload_n hx hb dgX4_findCharacteristic_0 rfl (lv_at hl 0 rfl) ?_
  refine va_get (D := (dC, dI)) (ci := 7) (v := .ref (ff 7)) (C := RX4) (T := TX4) (N := 8) hx hb hts (fun _ h => List.mem_cons_of_mem _ (List.mem_append_left _ (List.mem_append_right _ h))) hown hK hP 0 rfl rfl 7 (by decide) (hts (.fieldLink RX4 31 "KnotHouse$Faces" "characteristic" "[J") (by decide +kernel)) (fun _ h9 => h9) rfl dgX4_findCharacteristic_1 ?_
  refine lv_lconst (v := 0) hx hb dgX4_findCharacteristic_4 rfl ?_
  have hPc := hP.sub (ws' := [((ff 7), .inl (cJ, 9, .inr (.inl ch)))]) [4] rfl
  have hDc := hD.sub (ws' := [((ff 7), .inl (cJ, 9, .inr (.inl ch)))]) [4] (by decide) rfl
  have hFc := va_free (wc := [((ff 7), .inl (cJ, 9, .inr (.inl ch)))]) hD hS hA [4] rfl
  refine va_callv (va_runS (As := [.ref (ff 7), .long 0]) (rest := []) ⟨hx, hb, hml, hown, hts⟩ (kg_J7_fill_d0a16 l dC dI cI cB cJ cZ (ff 7) 9 (by decide) ch 0 H.size) (va_cwS 2 hts gg_X4_findCharacteristic_0 rfl rfl rfl (by decide +kernel) ⟨(Nat.le_of_ble_eq_true rfl), (Nat.le_of_ble_eq_true rfl)⟩) ⟨fun a U g mk q => by obtain ⟨q0, q1, qP, qK, qD⟩ := q; exact ⟨q0, q1, qP, va_K.moved (u := U) (U := U.calling g mk a) (Vm.Alike.refl U.vm) qK, qD⟩, fun U hU hW => ⟨rfl, by rw [hU], by rw [hU]; exact hPc, va_K.moved hW.alike hK, hDc.weaken (fun _ _ _ _ => trivial)⟩⟩ rfl rfl hl.1 rfl (lv_room (Nat.le_of_ble_eq_true rfl)) dgX4_findCharacteristic_5 ⟨(Nat.le_of_ble_eq_true rfl), (Nat.le_of_ble_eq_true rfl)⟩) hS (fun q _ h => hFc q h) hFc (fun u9 t H1 locs ht hvm hw9 hB hz1 hk1 hS => ?_)
  obtain ⟨hP1, hD1⟩ := hB
  rw [ht] at hP1
  obtain ⟨hP, hD⟩ := va_join (wr := [(aF, .inr (7, [.ref (ff 0), .int z, .ref (ff 2), .ref (ff 3), .ref (ff 4), .ref (ff 5), .ref (ff 6), .ref (ff 7)])), ((ff 4), .inl (cJ, 64, .inr (.inl mt))), ((ff 5), .inl (cJ, 64, .inr (.inl pw))), ((ff 6), .inl (cJ, 64, .inr (.inl pr)))]) (w1 := [((ff 7), .inl (cJ, 9, .inr (.inl (lfill ch 9 0))))]) hP hD [4] [0, 1, 2, 3] rfl rfl (by decide) (by decide) hk1 hFc hP1 hD1
  generalize H1 = H at hP hS ⊢
  have hP : va_P (dC, dI) vwCl [(aF, .inr (7, [.ref (ff 0), .int z, .ref (ff 2), .ref (ff 3), .ref (ff 4), .ref (ff 5), .ref (ff 6), .ref (ff 7)])), ((ff 4), .inl (cJ, 64, .inr (.inl mt))), ((ff 5), .inl (cJ, 64, .inr (.inl pw))), ((ff 6), .inl (cJ, 64, .inr (.inl pr))), ((ff 7), .inl (cJ, 9, .inr (.inl (lfill ch 9 0))))] H := hP
  have hD : va_D A [(aF, .inr (7, [.ref (ff 0), .int z, .ref (ff 2), .ref (ff 3), .ref (ff 4), .ref (ff 5), .ref (ff 6), .ref (ff 7)])), ((ff 4), .inl (cJ, 64, .inr (.inl mt))), ((ff 5), .inl (cJ, 64, .inr (.inl pw))), ((ff 6), .inl (cJ, 64, .inr (.inl pr))), ((ff 7), .inl (cJ, 9, .inr (.inl (lfill ch 9 0))))] := hD
  refine lv_aload_n hx hb dgX4_findCharacteristic_8 rfl (lv_at hl 0 rfl) ?_
  refine va_get (D := (dC, dI)) (ci := 7) (v := .ref (ff 5)) (C := RX4) (T := TX4) (N := 8) hx hb hts (fun _ h => List.mem_cons_of_mem _ (List.mem_append_left _ (List.mem_append_right _ h))) hown hK hP 0 rfl rfl 5 (by decide) (hts (.fieldLink RX4 25 "KnotHouse$Faces" "power" "[J") (by decide +kernel)) (fun _ h9 => h9) rfl dgX4_findCharacteristic_9 ?_
  refine lv_lconst (v := 0) hx hb dgX4_findCharacteristic_12 rfl ?_
  have hPc := hP.sub (ws' := [((ff 5), .inl (cJ, 64, .inr (.inl pw)))]) [2] rfl
  have hDc := hD.sub (ws' := [((ff 5), .inl (cJ, 64, .inr (.inl pw)))]) [2] (by decide) rfl
  have hFc := va_free (wc := [((ff 5), .inl (cJ, 64, .inr (.inl pw)))]) hD hS hA [2] rfl
  refine va_callv (va_runS (As := [.ref (ff 5), .long 0]) (rest := []) ⟨hx, hb, hml, hown, hts⟩ (kg_J7_fill_d0a16 l dC dI cI cB cJ cZ (ff 5) 64 (by decide) pw 0 H.size) (va_cwS 2 hts gg_X4_findCharacteristic_0 rfl rfl rfl (by decide +kernel) ⟨(Nat.le_of_ble_eq_true rfl), (Nat.le_of_ble_eq_true rfl)⟩) ⟨fun a U g mk q => by obtain ⟨q0, q1, qP, qK, qD⟩ := q; exact ⟨q0, q1, qP, va_K.moved (u := U) (U := U.calling g mk a) (Vm.Alike.refl U.vm) qK, qD⟩, fun U hU hW => ⟨rfl, by rw [hU], by rw [hU]; exact hPc, va_K.moved hW.alike hK, hDc.weaken (fun _ _ _ _ => trivial)⟩⟩ rfl rfl hl.1 rfl (lv_room (Nat.le_of_ble_eq_true rfl)) dgX4_findCharacteristic_13 ⟨(Nat.le_of_ble_eq_true rfl), (Nat.le_of_ble_eq_true rfl)⟩) hS (fun q _ h => hFc q h) hFc (fun u9 t H1 locs ht hvm hw9 hB hz1 hk1 hS => ?_)
  obtain ⟨hP1, hD1⟩ := hB
  rw [ht] at hP1
  obtain ⟨hP, hD⟩ := va_join (wr := [(aF, .inr (7, [.ref (ff 0), .int z, .ref (ff 2), .ref (ff 3), .ref (ff 4), .ref (ff 5), .ref (ff 6), .ref (ff 7)])), ((ff 4), .inl (cJ, 64, .inr (.inl mt))), ((ff 6), .inl (cJ, 64, .inr (.inl pr))), ((ff 7), .inl (cJ, 9, .inr (.inl (lfill ch 9 0))))]) (w1 := [((ff 5), .inl (cJ, 64, .inr (.inl (lfill pw 64 0))))]) hP hD [2] [0, 1, 3, 4] rfl rfl (by decide) (by decide) hk1 hFc hP1 hD1
  generalize H1 = H at hP hS ⊢
  have hP : va_P (dC, dI) vwCl [(aF, .inr (7, [.ref (ff 0), .int z, .ref (ff 2), .ref (ff 3), .ref (ff 4), .ref (ff 5), .ref (ff 6), .ref (ff 7)])), ((ff 4), .inl (cJ, 64, .inr (.inl mt))), ((ff 6), .inl (cJ, 64, .inr (.inl pr))), ((ff 7), .inl (cJ, 9, .inr (.inl (lfill ch 9 0)))), ((ff 5), .inl (cJ, 64, .inr (.inl (lfill pw 64 0))))] H := hP
  have hD : va_D A [(aF, .inr (7, [.ref (ff 0), .int z, .ref (ff 2), .ref (ff 3), .ref (ff 4), .ref (ff 5), .ref (ff 6), .ref (ff 7)])), ((ff 4), .inl (cJ, 64, .inr (.inl mt))), ((ff 6), .inl (cJ, 64, .inr (.inl pr))), ((ff 7), .inl (cJ, 9, .inr (.inl (lfill ch 9 0)))), ((ff 5), .inl (cJ, 64, .inr (.inl (lfill pw 64 0))))] := hD
  have hP := hP.sub (ws' := [(aF, .inr (7, [.ref (ff 0), .int z, .ref (ff 2), .ref (ff 3), .ref (ff 4), .ref (ff 5), .ref (ff 6), .ref (ff 7)])), ((ff 4), .inl (cJ, 64, .inr (.inl mt))), ((ff 5), .inl (cJ, 64, .inr (.inl (lfill pw 64 0)))), ((ff 6), .inl (cJ, 64, .inr (.inl pr))), ((ff 7), .inl (cJ, 9, .inr (.inl (lfill ch 9 0))))]) [0, 1, 4, 2, 3] rfl
  have hD := hD.sub (ws' := [(aF, .inr (7, [.ref (ff 0), .int z, .ref (ff 2), .ref (ff 3), .ref (ff 4), .ref (ff 5), .ref (ff 6), .ref (ff 7)])), ((ff 4), .inl (cJ, 64, .inr (.inl mt))), ((ff 5), .inl (cJ, 64, .inr (.inl (lfill pw 64 0)))), ((ff 6), .inl (cJ, 64, .inr (.inl pr))), ((ff 7), .inl (cJ, 9, .inr (.inl (lfill ch 9 0))))]) [0, 1, 4, 2, 3] (by decide) rfl
  refine lv_aload_n hx hb dgX4_findCharacteristic_16 rfl (lv_at hl 0 rfl) ?_
  refine va_get (D := (dC, dI)) (ci := 7) (v := .ref (ff 7)) (C := RX4) (T := TX4) (N := 8) hx hb hts (fun _ h => List.mem_cons_of_mem _ (List.mem_append_left _ (List.mem_append_right _ h))) hown hK hP 0 rfl rfl 7 (by decide) (hts (.fieldLink RX4 31 "KnotHouse$Faces" "characteristic" "[J") (by decide +kernel)) (fun _ h9 => h9) rfl dgX4_findCharacteristic_17 ?_
  refine lv_iload_n hx hb dgX4_findCharacteristic_20 rfl (lv_at hl 1 rfl) ?_
  refine lv_lconst (v := 1) hx hb dgX4_findCharacteristic_21 rfl ?_
  refine ow_lastF (j := sn) (x := 1) hx hb hK hP hD hS 4 2 rfl rfl (by omega) (by decide) dgX4_findCharacteristic_22 (fun H locs hP hD hS => ?_)
  have hP : va_P (dC, dI) vwCl [(aF, .inr (7, [.ref (ff 0), .int z, .ref (ff 2), .ref (ff 3), .ref (ff 4), .ref (ff 5), .ref (ff 6), .ref (ff 7)])), ((ff 4), .inl (cJ, 64, .inr (.inl mt))), ((ff 5), .inl (cJ, 64, .inr (.inl (lfill pw 64 0)))), ((ff 6), .inl (cJ, 64, .inr (.inl pr))), ((ff 7), .inl (cJ, 9, .inr (.inl (fu (lfill ch 9 0) sn 1))))] H := hP
  have hD : va_D A [(aF, .inr (7, [.ref (ff 0), .int z, .ref (ff 2), .ref (ff 3), .ref (ff 4), .ref (ff 5), .ref (ff 6), .ref (ff 7)])), ((ff 4), .inl (cJ, 64, .inr (.inl mt))), ((ff 5), .inl (cJ, 64, .inr (.inl (lfill pw 64 0)))), ((ff 6), .inl (cJ, 64, .inr (.inl pr))), ((ff 7), .inl (cJ, 9, .inr (.inl (fu (lfill ch 9 0) sn 1))))] := hD
  refine lv_iconst (v := 1) hx hb dgX4_findCharacteristic_23 (by decide) ?_
  refine ow_topi (y := nI 1) (by decide) ?_
  refine lv_istore_n (lv' := [(2, .int (nI 1)), (0, .ref aF), (1, .int (nI sn))]) hx hb dgX4_findCharacteristic_24 rfl hl (by decide) rfl (fun ls hl => ?_)
  have hP : va_P (dC, dI) vwCl [(aF, .inr (7, [.ref (ff 0), .int z, .ref (ff 2), .ref (ff 3), .ref (ff 4), .ref (ff 5), .ref (ff 6), .ref (ff 7)])), ((ff 4), .inl (cJ, 64, .inr (.inl mt))), ((ff 5), .inl (cJ, 64, .inr (.inl ((fk_n mt sn (fk_0 ch pw pr sn) 0).2.1)))), ((ff 6), .inl (cJ, 64, .inr (.inl ((fk_n mt sn (fk_0 ch pw pr sn) 0).2.2)))), ((ff 7), .inl (cJ, 9, .inr (.inl ((fk_n mt sn (fk_0 ch pw pr sn) 0).1))))] H := hP
  have hD : va_D A [(aF, .inr (7, [.ref (ff 0), .int z, .ref (ff 2), .ref (ff 3), .ref (ff 4), .ref (ff 5), .ref (ff 6), .ref (ff 7)])), ((ff 4), .inl (cJ, 64, .inr (.inl mt))), ((ff 5), .inl (cJ, 64, .inr (.inl ((fk_n mt sn (fk_0 ch pw pr sn) 0).2.1)))), ((ff 6), .inl (cJ, 64, .inr (.inl ((fk_n mt sn (fk_0 ch pw pr sn) 0).2.2)))), ((ff 7), .inl (cJ, 9, .inr (.inl ((fk_n mt sn (fk_0 ch pw pr sn) 0).1))))] := hD
  exact L25 sn 0 (by omega) H locs ls hP hD hS (lv_sub hl [1, 2, 0] rfl)
def eg_sg (mt ch pw pr : Nat → Int64) (sn : Nat) : Int32 := nI (sc_run (fk_n mt sn (fk_0 ch pw pr sn) sn).1 1 (sn + 1)).1 - nI (sc_run (fk_n mt sn (fk_0 ch pw pr sn) sn).1 (-1) (sn + 1)).1
theorem dgX4_eigenvalueSigns_0 : decode cX4_eigenvalueSigns 0 = .ok (.aload_n 0, 1) := by decide +kernel
theorem dgX4_eigenvalueSigns_1 : decode cX4_eigenvalueSigns 1 = .ok (.iload_n 1, 1) := by decide +kernel
theorem dgX4_eigenvalueSigns_2 : decode cX4_eigenvalueSigns 2 = .ok (.invokevirtual 100, 3) := by decide +kernel
theorem dgX4_eigenvalueSigns_5 : decode cX4_eigenvalueSigns 5 = .ok (.aload_n 0, 1) := by decide +kernel
theorem dgX4_eigenvalueSigns_6 : decode cX4_eigenvalueSigns 6 = .ok (.iload_n 1, 1) := by decide +kernel
theorem dgX4_eigenvalueSigns_7 : decode cX4_eigenvalueSigns 7 = .ok (.iconst 1, 1) := by decide +kernel
theorem dgX4_eigenvalueSigns_8 : decode cX4_eigenvalueSigns 8 = .ok (.invokevirtual 104, 3) := by decide +kernel
theorem dgX4_eigenvalueSigns_11 : decode cX4_eigenvalueSigns 11 = .ok (.aload_n 0, 1) := by decide +kernel
theorem dgX4_eigenvalueSigns_12 : decode cX4_eigenvalueSigns 12 = .ok (.iload_n 1, 1) := by decide +kernel
theorem dgX4_eigenvalueSigns_13 : decode cX4_eigenvalueSigns 13 = .ok (.iconst (-1), 1) := by decide +kernel
theorem dgX4_eigenvalueSigns_14 : decode cX4_eigenvalueSigns 14 = .ok (.invokevirtual 104, 3) := by decide +kernel
theorem dgX4_eigenvalueSigns_17 : decode cX4_eigenvalueSigns 17 = .ok (.isub, 1) := by decide +kernel
theorem dgX4_eigenvalueSigns_18 : decode cX4_eigenvalueSigns 18 = .ok (.ireturn, 1) := by decide +kernel
def wg_X4_eigenvalueSigns : List Cond := .code yX4_eigenvalueSigns cX4_eigenvalueSigns 2 (some .int) :: (([] ++ wsX40) ++ (wsV RX4 100 RX4 yX4_findCharacteristic wg_X4_findCharacteristic ++ (wsV RX4 104 RX4 yX4_signChanges wg_X4_signChanges ++ [])))
theorem gg_X4_eigenvalueSigns_0 : GoodIn wg_X4_eigenvalueSigns (wsV RX4 100 RX4 yX4_findCharacteristic wg_X4_findCharacteristic) := goodIn_sub (fun _ h => List.mem_cons_of_mem _ (List.mem_append_right _ (List.mem_append_left _ h))) (by decide +kernel)
theorem gg_X4_eigenvalueSigns_1 : GoodIn wg_X4_eigenvalueSigns (wsV RX4 104 RX4 yX4_signChanges wg_X4_signChanges) := goodIn_sub (fun _ h => List.mem_cons_of_mem _ (List.mem_append_right _ (List.mem_append_right _ (List.mem_append_left _ h)))) (by decide +kernel)
set_option maxHeartbeats 4000000 in
set_option maxRecDepth 100000 in
theorem kg_X4_eigenvalueSigns (l : Launch) (dC : Nat → ClassId) (dI : Nat → Nat → Nat) (cI cB cJ cZ : ClassId) (aF : Nat) (ff : Nat → Nat) (z : Int32) (mt ch pw pr : Nat → Int64) (sn : Nat) (hsn : sn ≤ 8) (sz : Nat) : Met l yX4_eigenvalueSigns wg_X4_eigenvalueSigns (({ frames := 2, cells := 0, slots := 0, locals := 110 } : Room)) (va_Pc [.ref aF, .int (nI sn)] (fun U => U.heap.size = sz ∧ va_P (dC, dI) vwCl [(aF, .inr (7, [.ref (ff 0), .int z, .ref (ff 2), .ref (ff 3), .ref (ff 4), .ref (ff 5), .ref (ff 6), .ref (ff 7)])), ((ff 4), .inl (cJ, 64, .inr (.inl mt))), ((ff 5), .inl (cJ, 64, .inr (.inl pw))), ((ff 6), .inl (cJ, 64, .inr (.inl pr))), ((ff 7), .inl (cJ, 9, .inr (.inl ch)))] U.heap ∧ va_K (dC, dI) vwCl [(cI, .int), (cB, .byte), (cJ, .long), (cZ, .boolean)] U ∧ va_D (fun _ => True) [(aF, .inr (7, [.ref (ff 0), .int z, .ref (ff 2), .ref (ff 3), .ref (ff 4), .ref (ff 5), .ref (ff 6), .ref (ff 7)])), ((ff 4), .inl (cJ, 64, .inr (.inl mt))), ((ff 5), .inl (cJ, 64, .inr (.inl pw))), ((ff 6), .inl (cJ, 64, .inr (.inl pr))), ((ff 7), .inl (cJ, 9, .inr (.inl ch)))])) (va_Qi (fun r (g : Unit) => r = eg_sg mt ch pw pr sn) (fun g t => va_P (dC, dI) vwCl [(aF, .inr (7, [.ref (ff 0), .int z, .ref (ff 2), .ref (ff 3), .ref (ff 4), .ref (ff 5), .ref (ff 6), .ref (ff 7)])), ((ff 4), .inl (cJ, 64, .inr (.inl mt))), ((ff 5), .inl (cJ, 64, .inr (.inl ((fk_n mt sn (fk_0 ch pw pr sn) sn).2.1)))), ((ff 6), .inl (cJ, 64, .inr (.inl ((fk_n mt sn (fk_0 ch pw pr sn) sn).2.2)))), ((ff 7), .inl (cJ, 9, .inr (.inl ((fk_n mt sn (fk_0 ch pw pr sn) sn).1))))] t.heap ∧ va_D (va_A [(aF, .inr (7, [.ref (ff 0), .int z, .ref (ff 2), .ref (ff 3), .ref (ff 4), .ref (ff 5), .ref (ff 6), .ref (ff 7)])), ((ff 4), .inl (cJ, 64, .inr (.inl mt))), ((ff 5), .inl (cJ, 64, .inr (.inl pw))), ((ff 6), .inl (cJ, 64, .inr (.inl pr))), ((ff 7), .inl (cJ, 9, .inr (.inl ch)))] sz) [(aF, .inr (7, [.ref (ff 0), .int z, .ref (ff 2), .ref (ff 3), .ref (ff 4), .ref (ff 5), .ref (ff 6), .ref (ff 7)])), ((ff 4), .inl (cJ, 64, .inr (.inl mt))), ((ff 5), .inl (cJ, 64, .inr (.inl ((fk_n mt sn (fk_0 ch pw pr sn) sn).2.1)))), ((ff 6), .inl (cJ, 64, .inr (.inl ((fk_n mt sn (fk_0 ch pw pr sn) sn).2.2)))), ((ff 7), .inl (cJ, 9, .inr (.inl ((fk_n mt sn (fk_0 ch pw pr sn) sn).1))))]) (va_A [(aF, .inr (7, [.ref (ff 0), .int z, .ref (ff 2), .ref (ff 3), .ref (ff 4), .ref (ff 5), .ref (ff 6), .ref (ff 7)])), ((ff 4), .inl (cJ, 64, .inr (.inl mt))), ((ff 5), .inl (cJ, 64, .inr (.inl pw))), ((ff 6), .inl (cJ, 64, .inr (.inl pr))), ((ff 7), .inl (cJ, 9, .inr (.inl ch)))] sz)) 0 0 (va_A [(aF, .inr (7, [.ref (ff 0), .int z, .ref (ff 2), .ref (ff 3), .ref (ff 4), .ref (ff 5), .ref (ff 6), .ref (ff 7)])), ((ff 4), .inl (cJ, 64, .inr (.inl mt))), ((ff 5), .inl (cJ, 64, .inr (.inl pw))), ((ff 6), .inl (cJ, 64, .inr (.inl pr))), ((ff 7), .inl (cJ, 9, .inr (.inl ch)))] sz) := by
  refine Met.ofW (cc := cX4_eigenvalueSigns) (maxL := 2) (ret := (some .int)) (by decide) rfl ?_
  intro p e s m args below meth c s₁ B hml hv
  obtain ⟨rfl, hsz, hP, hK, hD0⟩ := hv
  have hx := B.exec
  have hb := B.bytes
  have hr := B.returns
  have hts := atoms_spec (ws := wg_X4_eigenvalueSigns) B.pre
  have hown : s.vm.findClass RX4 = some m.cls := findClass_of_methodNamed B.named
  have hlocks := B.notSynchronized
  subst hsz
  have hD := hD0.self (sz := s.heap.size)
  generalize hAe : va_A [(aF, .inr (7, [.ref (ff 0), .int z, .ref (ff 2), .ref (ff 3), .ref (ff 4), .ref (ff 5), .ref (ff 6), .ref (ff 7)])), ((ff 4), .inl (cJ, 64, .inr (.inl mt))), ((ff 5), .inl (cJ, 64, .inr (.inl pw))), ((ff 6), .inl (cJ, 64, .inr (.inl pr))), ((ff 7), .inl (cJ, 9, .inr (.inl ch)))] s.heap.size = A at hD ⊢
  have hA : ∀ q : Nat, s.heap.size ≤ q → A q := fun q h => by rw [← hAe]; exact Or.inr h
  have hS : va_S A s.heap s.heap [] := va_S.rf
  have hP : va_P (dC, dI) vwCl [(aF, .inr (7, [.ref (ff 0), .int z, .ref (ff 2), .ref (ff 3), .ref (ff 4), .ref (ff 5), .ref (ff 6), .ref (ff 7)])), ((ff 4), .inl (cJ, 64, .inr (.inl mt))), ((ff 5), .inl (cJ, 64, .inr (.inl pw))), ((ff 6), .inl (cJ, 64, .inr (.inl pr))), ((ff 7), .inl (cJ, 9, .inr (.inl ch)))] s.heap := hP
  have hl := lv_entry ([.ref aF, .int (nI sn)]) (n := 2) (Nat.le_of_ble_eq_true rfl)
  rw [lg_entry_eq]
  generalize (lg_sl ([.ref aF, .int (nI sn)]) ++ List.replicate (2 - (lg_sl ([.ref aF, .int (nI sn)])).length) Slot.unset).toArray = ls at hl ⊢
  have hl : lv_has ls 2 [(0, .ref aF), (1, .int (nI sn))] := hl
  refine ow_named (fun QQ hQQ => ?_)
  suffices key9 : ∀ (H : Heap) (locs : List Loc), va_P (dC, dI) vwCl [(aF, .inr (7, [.ref (ff 0), .int z, .ref (ff 2), .ref (ff 3), .ref (ff 4), .ref (ff 5), .ref (ff 6), .ref (ff 7)])), ((ff 4), .inl (cJ, 64, .inr (.inl mt))), ((ff 5), .inl (cJ, 64, .inr (.inl pw))), ((ff 6), .inl (cJ, 64, .inr (.inl pr))), ((ff 7), .inl (cJ, 9, .inr (.inl ch)))] H → va_S A s.heap H locs → W p l e ({ frames := 2, cells := 0, slots := 0, locals := 110 } : Room) s m ([.ref aF, .int (nI sn)] : List Value).toArray below meth c H locs 0 0 QQ (F0 m 0 ls []) from key9 s.heap [] hP hS
  intro H locs hP hS
  refine lv_aload_n hx hb dgX4_eigenvalueSigns_0 rfl (lv_at hl 0 rfl) ?_
  refine lv_iload_n hx hb dgX4_eigenvalueSigns_1 rfl (lv_at hl 1 rfl) ?_
  have hPc := hP.sub (ws' := [(aF, .inr (7, [.ref (ff 0), .int z, .ref (ff 2), .ref (ff 3), .ref (ff 4), .ref (ff 5), .ref (ff 6), .ref (ff 7)])), ((ff 4), .inl (cJ, 64, .inr (.inl mt))), ((ff 5), .inl (cJ, 64, .inr (.inl pw))), ((ff 6), .inl (cJ, 64, .inr (.inl pr))), ((ff 7), .inl (cJ, 9, .inr (.inl ch)))]) [0, 1, 2, 3, 4] rfl
  have hDc := hD.sub (ws' := [(aF, .inr (7, [.ref (ff 0), .int z, .ref (ff 2), .ref (ff 3), .ref (ff 4), .ref (ff 5), .ref (ff 6), .ref (ff 7)])), ((ff 4), .inl (cJ, 64, .inr (.inl mt))), ((ff 5), .inl (cJ, 64, .inr (.inl pw))), ((ff 6), .inl (cJ, 64, .inr (.inl pr))), ((ff 7), .inl (cJ, 9, .inr (.inl ch)))]) [0, 1, 2, 3, 4] (by decide) rfl
  have hFc := va_free (wc := [(aF, .inr (7, [.ref (ff 0), .int z, .ref (ff 2), .ref (ff 3), .ref (ff 4), .ref (ff 5), .ref (ff 6), .ref (ff 7)])), ((ff 4), .inl (cJ, 64, .inr (.inl mt))), ((ff 5), .inl (cJ, 64, .inr (.inl pw))), ((ff 6), .inl (cJ, 64, .inr (.inl pr))), ((ff 7), .inl (cJ, 9, .inr (.inl ch)))]) hD hS hA [0, 1, 2, 3, 4] rfl
  refine va_callv (va_runV (As := [.int (nI sn)]) (rest := []) ⟨hx, hb, hml, hown, hts⟩ (kg_X4_findCharacteristic l dC dI cI cB cJ cZ aF ff z mt ch pw pr sn hsn H.size) (cwV 1 hts gg_X4_eigenvalueSigns_0 rfl rfl rfl (by decide +kernel) ⟨(Nat.le_of_ble_eq_true rfl), (Nat.le_of_ble_eq_true rfl)⟩) ⟨fun a U g mk q => by obtain ⟨q0, q1, qP, qK, qD⟩ := q; exact ⟨q0, q1, qP, va_K.moved (u := U) (U := U.calling g mk a) (Vm.Alike.refl U.vm) qK, qD⟩, va_recv hK hPc (ci := 7) (q0 := 0) rfl rfl, fun U hU hW => ⟨rfl, by rw [hU], by rw [hU]; exact hPc, va_K.moved hW.alike hK, hDc.weaken (fun _ _ _ _ => trivial)⟩⟩ rfl rfl hl.1 rfl (lv_room (Nat.le_of_ble_eq_true rfl)) dgX4_eigenvalueSigns_2 ⟨(Nat.le_of_ble_eq_true rfl), (Nat.le_of_ble_eq_true rfl)⟩) hS (fun q _ h => hFc q h) hFc (fun u9 t H1 locs ht hvm hw hB hz1 hk1 hS => ?_)
  obtain ⟨hP1, hD1⟩ := hB
  rw [ht] at hP1
  obtain ⟨hP, hD⟩ := va_join (wr := []) (w1 := [(aF, .inr (7, [.ref (ff 0), .int z, .ref (ff 2), .ref (ff 3), .ref (ff 4), .ref (ff 5), .ref (ff 6), .ref (ff 7)])), ((ff 4), .inl (cJ, 64, .inr (.inl mt))), ((ff 5), .inl (cJ, 64, .inr (.inl ((fk_n mt sn (fk_0 ch pw pr sn) sn).2.1)))), ((ff 6), .inl (cJ, 64, .inr (.inl ((fk_n mt sn (fk_0 ch pw pr sn) sn).2.2)))), ((ff 7), .inl (cJ, 9, .inr (.inl ((fk_n mt sn (fk_0 ch pw pr sn) sn).1))))]) hP hD [0, 1, 2, 3, 4] [] rfl rfl (by decide) (by decide) hk1 hFc hP1 hD1
  generalize H1 = H at hP hS ⊢
  have hP : va_P (dC, dI) vwCl [(aF, .inr (7, [.ref (ff 0), .int z, .ref (ff 2), .ref (ff 3), .ref (ff 4), .ref (ff 5), .ref (ff 6), .ref (ff 7)])), ((ff 4), .inl (cJ, 64, .inr (.inl mt))), ((ff 5), .inl (cJ, 64, .inr (.inl ((fk_n mt sn (fk_0 ch pw pr sn) sn).2.1)))), ((ff 6), .inl (cJ, 64, .inr (.inl ((fk_n mt sn (fk_0 ch pw pr sn) sn).2.2)))), ((ff 7), .inl (cJ, 9, .inr (.inl ((fk_n mt sn (fk_0 ch pw pr sn) sn).1))))] H := hP
  have hD : va_D A [(aF, .inr (7, [.ref (ff 0), .int z, .ref (ff 2), .ref (ff 3), .ref (ff 4), .ref (ff 5), .ref (ff 6), .ref (ff 7)])), ((ff 4), .inl (cJ, 64, .inr (.inl mt))), ((ff 5), .inl (cJ, 64, .inr (.inl ((fk_n mt sn (fk_0 ch pw pr sn) sn).2.1)))), ((ff 6), .inl (cJ, 64, .inr (.inl ((fk_n mt sn (fk_0 ch pw pr sn) sn).2.2)))), ((ff 7), .inl (cJ, 9, .inr (.inl ((fk_n mt sn (fk_0 ch pw pr sn) sn).1))))] := hD
  refine lv_aload_n hx hb dgX4_eigenvalueSigns_5 rfl (lv_at hl 0 rfl) ?_
  refine lv_iload_n hx hb dgX4_eigenvalueSigns_6 rfl (lv_at hl 1 rfl) ?_
  refine lv_iconst (v := 1) hx hb dgX4_eigenvalueSigns_7 (by decide) ?_
  have hPc := hP.sub (ws' := [(aF, .inr (7, [.ref (ff 0), .int z, .ref (ff 2), .ref (ff 3), .ref (ff 4), .ref (ff 5), .ref (ff 6), .ref (ff 7)])), ((ff 7), .inl (cJ, 9, .inr (.inl ((fk_n mt sn (fk_0 ch pw pr sn) sn).1))))]) [0, 4] rfl
  refine va_calli (va_runV (As := [.int (nI sn), .int 1]) (rest := []) ⟨hx, hb, hml, hown, hts⟩ (kg_X4_signChanges l dC dI cI cB cJ cZ aF ff z (fk_n mt sn (fk_0 ch pw pr sn) sn).1 sn hsn 1) (cwV 2 hts gg_X4_eigenvalueSigns_1 rfl rfl rfl (by decide +kernel) ⟨(Nat.le_of_ble_eq_true rfl), (Nat.le_of_ble_eq_true rfl)⟩) ⟨fun a U g mk q => by obtain ⟨q0, qP, qK⟩ := q; exact ⟨q0, qP, va_K.moved (u := U) (U := U.calling g mk a) (Vm.Alike.refl U.vm) qK⟩, va_recv hK hPc (ci := 7) (q0 := 0) rfl rfl, fun U hU hW => ⟨rfl, by rw [hU]; exact hPc, va_K.moved hW.alike hK⟩⟩ rfl rfl hl.1 rfl (lv_room (Nat.le_of_ble_eq_true rfl)) dgX4_eigenvalueSigns_8 ⟨(Nat.le_of_ble_eq_true rfl), (Nat.le_of_ble_eq_true rfl)⟩) hS (fun q _ h => h.elim) (fun q h => h.elim) (fun ra1 un t H1 locs ht hvm hw9 hB hz1 hk1 hS => ?_)
  have hP := hP.kept (fun k9 x9 h9 => hk1 x9.1 ((hP k9 x9 h9).lt) id)
  generalize H1 = H at hP hS ⊢
  obtain rfl : ra1 = nI (sc_run (fk_n mt sn (fk_0 ch pw pr sn) sn).1 1 (sn + 1)).1 := hw9
  refine lv_aload_n hx hb dgX4_eigenvalueSigns_11 rfl (lv_at hl 0 rfl) ?_
  refine lv_iload_n hx hb dgX4_eigenvalueSigns_12 rfl (lv_at hl 1 rfl) ?_
  refine lv_iconst (v := (-1)) hx hb dgX4_eigenvalueSigns_13 (by decide) ?_
  have hPc := hP.sub (ws' := [(aF, .inr (7, [.ref (ff 0), .int z, .ref (ff 2), .ref (ff 3), .ref (ff 4), .ref (ff 5), .ref (ff 6), .ref (ff 7)])), ((ff 7), .inl (cJ, 9, .inr (.inl ((fk_n mt sn (fk_0 ch pw pr sn) sn).1))))]) [0, 4] rfl
  refine va_calli (va_runV (As := [.int (nI sn), .int (-1)]) (rest := [.int (nI (sc_run (fk_n mt sn (fk_0 ch pw pr sn) sn).1 1 (sn + 1)).1)]) ⟨hx, hb, hml, hown, hts⟩ (kg_X4_signChanges l dC dI cI cB cJ cZ aF ff z (fk_n mt sn (fk_0 ch pw pr sn) sn).1 sn hsn (-1)) (cwV 2 hts gg_X4_eigenvalueSigns_1 rfl rfl rfl (by decide +kernel) ⟨(Nat.le_of_ble_eq_true rfl), (Nat.le_of_ble_eq_true rfl)⟩) ⟨fun a U g mk q => by obtain ⟨q0, qP, qK⟩ := q; exact ⟨q0, qP, va_K.moved (u := U) (U := U.calling g mk a) (Vm.Alike.refl U.vm) qK⟩, va_recv hK hPc (ci := 7) (q0 := 0) rfl rfl, fun U hU hW => ⟨rfl, by rw [hU]; exact hPc, va_K.moved hW.alike hK⟩⟩ rfl rfl hl.1 rfl (lv_room (Nat.le_of_ble_eq_true rfl)) dgX4_eigenvalueSigns_14 ⟨(Nat.le_of_ble_eq_true rfl), (Nat.le_of_ble_eq_true rfl)⟩) hS (fun q _ h => h.elim) (fun q h => h.elim) (fun ra2 un t H1 locs ht hvm hw9 hB hz1 hk1 hS => ?_)
  have hP := hP.kept (fun k9 x9 h9 => hk1 x9.1 ((hP k9 x9 h9).lt) id)
  generalize H1 = H at hP hS ⊢
  obtain rfl : ra2 = nI (sc_run (fk_n mt sn (fk_0 ch pw pr sn) sn).1 (-1) (sn + 1)).1 := hw9
  refine lv_isub hx hb dgX4_eigenvalueSigns_17 ?_
  rw [hQQ]
  exact W.iret (v := ((nI (sc_run (fk_n mt sn (fk_0 ch pw pr sn) sn).1 1 (sn + 1)).1) - (nI (sc_run (fk_n mt sn (fk_0 ch pw pr sn) sn).1 (-1) (sn + 1)).1))) hx hb hr (fun t ht hW => ⟨⟨((nI (sc_run (fk_n mt sn (fk_0 ch pw pr sn) sn).1 1 (sn + 1)).1) - (nI (sc_run (fk_n mt sn (fk_0 ch pw pr sn) sn).1 (-1) (sn + 1)).1)), (), rfl, rfl, by rw [ht]; exact hP, hD⟩, hS.F ht⟩) hS.2.2 dgX4_eigenvalueSigns_18
