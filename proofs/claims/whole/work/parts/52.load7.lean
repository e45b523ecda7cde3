theorem ow_shr2 {n : Nat} (h : n < 2 ^ 31) : nI n >>> (2 &&& 31) = nI (n / 4) := by
  apply Int32.toInt_inj.mp
  rw [pk_shr (nI n) (2 &&& 31) 2 (by decide), nI_toInt h, nI_toInt (by omega), Int.shiftRight_eq_div_pow]
  omega
theorem ow_dec {n : Nat} (h : 0 < n) : nI n + (-1) = nI (n - 1) := by
  have h1 : nI n - nI 1 = nI (n - 1) := pk_sub h
  rw [Int32.sub_eq_add_neg] at h1
  exact h1
def oI : Option Nat → Int32
  | none => -1
  | some v => nI v
/-- a net while a code is read: (next and prev, signs, order, component), (circles, components, base, named, lonely, count), (first, last) -/
abbrev ow_LD := (ow_NP × (Nat → Int32) × (Nat → Int32) × (Nat → Int32)) × (Nat × Nat × Nat × Nat × Nat × Nat) × (Option Nat × Option Nat)
def ld_zero (S : ow_NP) (G Fo Fc : Nat → Int32) (ci co ba na lo cn : Nat) (fi la : Option Nat) : ow_LD := (((match fi with | none => S | some f => nl S (la.getD 0) f), G, Fo, Fc), ((match fi with | none => ci + 1 | some _ => ci), co + 1, (if lo = 0 then na else ba), na, lo, cn), (none, la))
def ld_visit (S : ow_NP) (G Fo Fc : Nat → Int32) (ci co ba na lo cn : Nat) (fi la : Option Nat) (x v : Nat) (g : Int32) : ow_LD := (((match fi with | none => S | some _ => nl S (la.getD 0) v), (if x < na then G else su G x g), su Fo cn (nI v), su Fc v (nI co)), (ci, co, ba, (if x < na then na else x + 1), (if x < na then lo - 1 else lo + 1), cn + 1), (some (fi.getD v), some v))
def ld_cell (t : ow_LD) (c : Nat) : Option ow_LD := match t with
  | ((S, G, Fo, Fc), (ci, co, ba, na, lo, cn), (fi, la)) =>
    if c = 0 then some (ld_zero S G Fo Fc ci co ba na lo cn fi la)
    else if 4 ≤ c ∧ ba + c / 4 - 1 < 12 ∧ cn < 24 ∧ (ba + c / 4 - 1 < na → 0 < lo) then some (ld_visit S G Fo Fc ci co ba na lo cn fi la (ba + c / 4 - 1) (2 * (ba + c / 4 - 1) + c / 2 % 2) (if c % 2 = 0 then 1 else -1))
    else none
def ld_run (A : Nat → Nat) : Nat → Nat → ow_LD → Option ow_LD
  | 0, _, t => some t
  | d + 1, i, t => (ld_cell t (A i)).bind (ld_run A d (i + 1))
def ld_init (S : ow_NP) (G Fo Fc : Nat → Int32) : ow_LD := ((S, G, Fo, Fc), (0, 0, 0, 0, 0, 0), (none, none))
theorem dgX7_load_0 : decode cX7_load 0 = .ok (.aload_n 0, 1) := by decide +kernel
theorem dgX7_load_1 : decode cX7_load 1 = .ok (.aload_n 1, 1) := by decide +kernel
theorem dgX7_load_2 : decode cX7_load 2 = .ok (.getfield 33, 3) := by decide +kernel
theorem dgX7_load_5 : decode cX7_load 5 = .ok (.iload_n 2, 1) := by decide +kernel
theorem dgX7_load_6 : decode cX7_load 6 = .ok (.baload, 1) := by decide +kernel
theorem dgX7_load_7 : decode cX7_load 7 = .ok (.putfield 39, 3) := by decide +kernel
theorem dgX7_load_10 : decode cX7_load 10 = .ok (.aload_n 0, 1) := by decide +kernel
theorem dgX7_load_11 : decode cX7_load 11 = .ok (.iconst 0, 1) := by decide +kernel
theorem dgX7_load_12 : decode cX7_load 12 = .ok (.putfield 42, 3) := by decide +kernel
theorem dgX7_load_15 : decode cX7_load 15 = .ok (.aload_n 0, 1) := by decide +kernel
theorem dgX7_load_16 : decode cX7_load 16 = .ok (.iconst 0, 1) := by decide +kernel
theorem dgX7_load_17 : decode cX7_load 17 = .ok (.putfield 45, 3) := by decide +kernel
theorem dgX7_load_20 : decode cX7_load 20 = .ok (.iload_n 2, 1) := by decide +kernel
theorem dgX7_load_21 : decode cX7_load 21 = .ok (.bipush 30, 2) := by decide +kernel
theorem dgX7_load_23 : decode cX7_load 23 = .ok (.imul, 1) := by decide +kernel
theorem dgX7_load_24 : decode cX7_load 24 = .ok (.istore_n 3, 1) := by decide +kernel
theorem dgX7_load_25 : decode cX7_load 25 = .ok (.iconst 0, 1) := by decide +kernel
theorem dgX7_load_26 : decode cX7_load 26 = .ok (.istore 4, 2) := by decide +kernel
theorem dgX7_load_28 : decode cX7_load 28 = .ok (.iconst 0, 1) := by decide +kernel
theorem dgX7_load_29 : decode cX7_load 29 = .ok (.istore 5, 2) := by decide +kernel
theorem dgX7_load_31 : decode cX7_load 31 = .ok (.iconst 0, 1) := by decide +kernel
theorem dgX7_load_32 : decode cX7_load 32 = .ok (.istore 6, 2) := by decide +kernel
theorem dgX7_load_34 : decode cX7_load 34 = .ok (.iconst 0, 1) := by decide +kernel
theorem dgX7_load_35 : decode cX7_load 35 = .ok (.istore 7, 2) := by decide +kernel
theorem dgX7_load_37 : decode cX7_load 37 = .ok (.iconst (-1), 1) := by decide +kernel
theorem dgX7_load_38 : decode cX7_load 38 = .ok (.istore 8, 2) := by decide +kernel
theorem dgX7_load_40 : decode cX7_load 40 = .ok (.iconst (-1), 1) := by decide +kernel
theorem dgX7_load_41 : decode cX7_load 41 = .ok (.istore 9, 2) := by decide +kernel
theorem dgX7_load_43 : decode cX7_load 43 = .ok (.iconst 0, 1) := by decide +kernel
theorem dgX7_load_44 : decode cX7_load 44 = .ok (.istore 10, 2) := by decide +kernel
theorem dgX7_load_46 : decode cX7_load 46 = .ok (.iload 10, 2) := by decide +kernel
theorem dgX7_load_48 : decode cX7_load 48 = .ok (.aload_n 1, 1) := by decide +kernel
theorem dgX7_load_49 : decode cX7_load 49 = .ok (.getfield 48, 3) := by decide +kernel
theorem dgX7_load_52 : decode cX7_load 52 = .ok (.iload_n 2, 1) := by decide +kernel
theorem dgX7_load_53 : decode cX7_load 53 = .ok (.baload, 1) := by decide +kernel
theorem dgX7_load_54 : decode cX7_load 54 = .ok (.if_icmp .ge 195, 3) := by decide +kernel
theorem dgX7_load_57 : decode cX7_load 57 = .ok (.aload_n 1, 1) := by decide +kernel
theorem dgX7_load_58 : decode cX7_load 58 = .ok (.getfield 51, 3) := by decide +kernel
theorem dgX7_load_61 : decode cX7_load 61 = .ok (.iload_n 3, 1) := by decide +kernel
theorem dgX7_load_62 : decode cX7_load 62 = .ok (.iload 10, 2) := by decide +kernel
theorem dgX7_load_64 : decode cX7_load 64 = .ok (.iadd, 1) := by decide +kernel
theorem dgX7_load_65 : decode cX7_load 65 = .ok (.baload, 1) := by decide +kernel
theorem dgX7_load_66 : decode cX7_load 66 = .ok (.istore 11, 2) := by decide +kernel
theorem dgX7_load_68 : decode cX7_load 68 = .ok (.iload 11, 2) := by decide +kernel
theorem dgX7_load_70 : decode cX7_load 70 = .ok (.ifCond .ne 60, 3) := by decide +kernel
theorem dgX7_load_73 : decode cX7_load 73 = .ok (.iload 8, 2) := by decide +kernel
theorem dgX7_load_75 : decode cX7_load 75 = .ok (.iconst (-1), 1) := by decide +kernel
theorem dgX7_load_76 : decode cX7_load 76 = .ok (.if_icmp .ne 16, 3) := by decide +kernel
theorem dgX7_load_79 : decode cX7_load 79 = .ok (.aload_n 0, 1) := by decide +kernel
theorem dgX7_load_80 : decode cX7_load 80 = .ok (.dup, 1) := by decide +kernel
theorem dgX7_load_81 : decode cX7_load 81 = .ok (.getfield 42, 3) := by decide +kernel
theorem dgX7_load_84 : decode cX7_load 84 = .ok (.iconst 1, 1) := by decide +kernel
theorem dgX7_load_85 : decode cX7_load 85 = .ok (.iadd, 1) := by decide +kernel
theorem dgX7_load_86 : decode cX7_load 86 = .ok (.putfield 42, 3) := by decide +kernel
theorem dgX7_load_89 : decode cX7_load 89 = .ok (.goto 11, 3) := by decide +kernel
theorem dgX7_load_92 : decode cX7_load 92 = .ok (.aload_n 0, 1) := by decide +kernel
theorem dgX7_load_93 : decode cX7_load 93 = .ok (.iload 9, 2) := by decide +kernel
theorem dgX7_load_95 : decode cX7_load 95 = .ok (.iload 8, 2) := by decide +kernel
theorem dgX7_load_97 : decode cX7_load 97 = .ok (.invokevirtual 54, 3) := by decide +kernel
theorem dgX7_load_100 : decode cX7_load 100 = .ok (.aload_n 0, 1) := by decide +kernel
theorem dgX7_load_101 : decode cX7_load 101 = .ok (.dup, 1) := by decide +kernel
theorem dgX7_load_102 : decode cX7_load 102 = .ok (.getfield 45, 3) := by decide +kernel
theorem dgX7_load_105 : decode cX7_load 105 = .ok (.iconst 1, 1) := by decide +kernel
theorem dgX7_load_106 : decode cX7_load 106 = .ok (.iadd, 1) := by decide +kernel
theorem dgX7_load_107 : decode cX7_load 107 = .ok (.putfield 45, 3) := by decide +kernel
theorem dgX7_load_110 : decode cX7_load 110 = .ok (.iconst (-1), 1) := by decide +kernel
theorem dgX7_load_111 : decode cX7_load 111 = .ok (.istore 8, 2) := by decide +kernel
theorem dgX7_load_113 : decode cX7_load 113 = .ok (.iload 6, 2) := by decide +kernel
theorem dgX7_load_115 : decode cX7_load 115 = .ok (.ifCond .ne 8, 3) := by decide +kernel
theorem dgX7_load_118 : decode cX7_load 118 = .ok (.iload 5, 2) := by decide +kernel
theorem dgX7_load_120 : decode cX7_load 120 = .ok (.goto 5, 3) := by decide +kernel
theorem dgX7_load_123 : decode cX7_load 123 = .ok (.iload 4, 2) := by decide +kernel
theorem dgX7_load_125 : decode cX7_load 125 = .ok (.istore 4, 2) := by decide +kernel
theorem dgX7_load_127 : decode cX7_load 127 = .ok (.goto 116, 3) := by decide +kernel
theorem dgX7_load_130 : decode cX7_load 130 = .ok (.iload 4, 2) := by decide +kernel
theorem dgX7_load_132 : decode cX7_load 132 = .ok (.iload 11, 2) := by decide +kernel
theorem dgX7_load_134 : decode cX7_load 134 = .ok (.iconst 2, 1) := by decide +kernel
theorem dgX7_load_135 : decode cX7_load 135 = .ok (.ishr, 1) := by decide +kernel
theorem dgX7_load_136 : decode cX7_load 136 = .ok (.iadd, 1) := by decide +kernel
theorem dgX7_load_137 : decode cX7_load 137 = .ok (.iconst 1, 1) := by decide +kernel
theorem dgX7_load_138 : decode cX7_load 138 = .ok (.isub, 1) := by decide +kernel
theorem dgX7_load_139 : decode cX7_load 139 = .ok (.istore 12, 2) := by decide +kernel
theorem dgX7_load_141 : decode cX7_load 141 = .ok (.iload 12, 2) := by decide +kernel
theorem dgX7_load_143 : decode cX7_load 143 = .ok (.iload 5, 2) := by decide +kernel
theorem dgX7_load_145 : decode cX7_load 145 = .ok (.if_icmp .lt 34, 3) := by decide +kernel
theorem dgX7_load_148 : decode cX7_load 148 = .ok (.iload 12, 2) := by decide +kernel
theorem dgX7_load_150 : decode cX7_load 150 = .ok (.iconst 1, 1) := by decide +kernel
theorem dgX7_load_151 : decode cX7_load 151 = .ok (.iadd, 1) := by decide +kernel
theorem dgX7_load_152 : decode cX7_load 152 = .ok (.istore 5, 2) := by decide +kernel
theorem dgX7_load_154 : decode cX7_load 154 = .ok (.iinc 6 1, 3) := by decide +kernel
theorem dgX7_load_157 : decode cX7_load 157 = .ok (.aload_n 0, 1) := by decide +kernel
theorem dgX7_load_158 : decode cX7_load 158 = .ok (.getfield 18, 3) := by decide +kernel
theorem dgX7_load_161 : decode cX7_load 161 = .ok (.iload 12, 2) := by decide +kernel
theorem dgX7_load_163 : decode cX7_load 163 = .ok (.iload 11, 2) := by decide +kernel
theorem dgX7_load_165 : decode cX7_load 165 = .ok (.iconst 1, 1) := by decide +kernel
theorem dgX7_load_166 : decode cX7_load 166 = .ok (.iand, 1) := by decide +kernel
theorem dgX7_load_167 : decode cX7_load 167 = .ok (.ifCond .ne 7, 3) := by decide +kernel
theorem dgX7_load_170 : decode cX7_load 170 = .ok (.iconst 1, 1) := by decide +kernel
theorem dgX7_load_171 : decode cX7_load 171 = .ok (.goto 4, 3) := by decide +kernel
theorem dgX7_load_174 : decode cX7_load 174 = .ok (.iconst (-1), 1) := by decide +kernel
theorem dgX7_load_175 : decode cX7_load 175 = .ok (.iastore, 1) := by decide +kernel
theorem dgX7_load_176 : decode cX7_load 176 = .ok (.goto 6, 3) := by decide +kernel
theorem dgX7_load_179 : decode cX7_load 179 = .ok (.iinc 6 (-1), 3) := by decide +kernel
theorem dgX7_load_182 : decode cX7_load 182 = .ok (.iconst 2, 1) := by decide +kernel
theorem dgX7_load_183 : decode cX7_load 183 = .ok (.iload 12, 2) := by decide +kernel
theorem dgX7_load_185 : decode cX7_load 185 = .ok (.imul, 1) := by decide +kernel
theorem dgX7_load_186 : decode cX7_load 186 = .ok (.iload 11, 2) := by decide +kernel
theorem dgX7_load_188 : decode cX7_load 188 = .ok (.iconst 1, 1) := by decide +kernel
theorem dgX7_load_189 : decode cX7_load 189 = .ok (.ishr, 1) := by decide +kernel
theorem dgX7_load_190 : decode cX7_load 190 = .ok (.iconst 1, 1) := by decide +kernel
theorem dgX7_load_191 : decode cX7_load 191 = .ok (.iand, 1) := by decide +kernel
theorem dgX7_load_192 : decode cX7_load 192 = .ok (.iadd, 1) := by decide +kernel
theorem dgX7_load_193 : decode cX7_load 193 = .ok (.istore 13, 2) := by decide +kernel
theorem dgX7_load_195 : decode cX7_load 195 = .ok (.aload_n 0, 1) := by decide +kernel
theorem dgX7_load_196 : decode cX7_load 196 = .ok (.getfield 21, 3) := by decide +kernel
theorem dgX7_load_199 : decode cX7_load 199 = .ok (.iload 7, 2) := by decide +kernel
theorem dgX7_load_201 : decode cX7_load 201 = .ok (.iload 13, 2) := by decide +kernel
theorem dgX7_load_203 : decode cX7_load 203 = .ok (.iastore, 1) := by decide +kernel
theorem dgX7_load_204 : decode cX7_load 204 = .ok (.iinc 7 1, 3) := by decide +kernel
theorem dgX7_load_207 : decode cX7_load 207 = .ok (.aload_n 0, 1) := by decide +kernel
theorem dgX7_load_208 : decode cX7_load 208 = .ok (.getfield 24, 3) := by decide +kernel
theorem dgX7_load_211 : decode cX7_load 211 = .ok (.iload 13, 2) := by decide +kernel
theorem dgX7_load_213 : decode cX7_load 213 = .ok (.aload_n 0, 1) := by decide +kernel
theorem dgX7_load_214 : decode cX7_load 214 = .ok (.getfield 45, 3) := by decide +kernel
theorem dgX7_load_217 : decode cX7_load 217 = .ok (.iastore, 1) := by decide +kernel
theorem dgX7_load_218 : decode cX7_load 218 = .ok (.iload 8, 2) := by decide +kernel
theorem dgX7_load_220 : decode cX7_load 220 = .ok (.iconst (-1), 1) := by decide +kernel
theorem dgX7_load_221 : decode cX7_load 221 = .ok (.if_icmp .ne 10, 3) := by decide +kernel
theorem dgX7_load_224 : decode cX7_load 224 = .ok (.iload 13, 2) := by decide +kernel
theorem dgX7_load_226 : decode cX7_load 226 = .ok (.istore 8, 2) := by decide +kernel
theorem dgX7_load_228 : decode cX7_load 228 = .ok (.goto 11, 3) := by decide +kernel
theorem dgX7_load_231 : decode cX7_load 231 = .ok (.aload_n 0, 1) := by decide +kernel
theorem dgX7_load_232 : decode cX7_load 232 = .ok (.iload 9, 2) := by decide +kernel
theorem dgX7_load_234 : decode cX7_load 234 = .ok (.iload 13, 2) := by decide +kernel
theorem dgX7_load_236 : decode cX7_load 236 = .ok (.invokevirtual 54, 3) := by decide +kernel
theorem dgX7_load_239 : decode cX7_load 239 = .ok (.iload 13, 2) := by decide +kernel
theorem dgX7_load_241 : decode cX7_load 241 = .ok (.istore 9, 2) := by decide +kernel
theorem dgX7_load_243 : decode cX7_load 243 = .ok (.iinc 10 1, 3) := by decide +kernel
theorem dgX7_load_246 : decode cX7_load 246 = .ok (.goto (-200), 3) := by decide +kernel
theorem dgX7_load_249 : decode cX7_load 249 = .ok (.return_, 1) := by decide +kernel
def wg_X7_load : List Cond := .code yX7_load cX7_load 14 none :: (([.fieldLink RX7 33 "KnotHouse$Codes" "crossings" "[B", .fieldLink RX7 39 "KnotHouse$Net" "crossings" "I", .fieldLink RX7 42 "KnotHouse$Net" "circles" "I", .fieldLink RX7 45 "KnotHouse$Net" "components" "I", .fieldLink RX7 48 "KnotHouse$Codes" "lengths" "[B", .fieldLink RX7 51 "KnotHouse$Codes" "cells" "[B", .fieldLink RX7 18 "KnotHouse$Net" "sign" "[I", .fieldLink RX7 21 "KnotHouse$Net" "order" "[I", .fieldLink RX7 24 "KnotHouse$Net" "component" "[I"] ++ wsX70 ++ wsX30) ++ (wsV RX7 54 RX7 yX7_link wg_X7_link ++ []))
theorem gg_X7_load_0 : GoodIn wg_X7_load (wsV RX7 54 RX7 yX7_link wg_X7_link) := goodIn_sub (fun _ h => List.mem_cons_of_mem _ (List.mem_append_right _ (List.mem_append_left _ h))) (by decide +kernel)
set_option maxHeartbeats 4000000 in
set_option maxRecDepth 100000 in
theorem kg_X7_load (l : Launch) (dC : Nat → ClassId) (dI : Nat → Nat → Nat) (cI cB cJ cZ : ClassId) (aX : Nat) (nx : Nat → Nat) (x7 x8 x9 x10 : Int32) (aY : Nat) (fy : Nat → Nat) (k : Nat) (hk : k < 2 ^ 24) (C2 L2 K2 : Nat → Nat) (zy : Int32) (b : Nat) (hbk : b < k) (hC2 : ow_b128 C2) (hL2 : L2 b ≤ 30) (S : ow_NP) (G Fo Fc : Nat → Int32) (R : ow_LD) (hR : ld_run (fun i => C2 (30 * b + i)) (L2 b) 0 (ld_init S G Fo Fc) = some R) (sz : Nat) : Met l yX7_load wg_X7_load (({ frames := 1, cells := 0, slots := 0, locals := 22 } : Room)) (va_Pc [.ref aX, .ref aY, .int (nI b)] (fun U => U.heap.size = sz ∧ va_P (dC, dI) vwCl [(aX, .inr (10, [.ref (nx 0), .ref (nx 1), .ref (nx 2), .ref (nx 3), .ref (nx 4), .ref (nx 5), .ref (nx 6), .int x7, .int x8, .int x9, .int x10])), ((nx 0), .inl (cI, 24, .inl (ow_nI S.1))), ((nx 1), .inl (cI, 24, .inl (ow_nI S.2))), ((nx 2), .inl (cI, 12, .inl G)), ((nx 3), .inl (cI, 24, .inl Fo)), ((nx 4), .inl (cI, 24, .inl Fc)), (aY, .inr (6, [.ref (fy 0), .ref (fy 1), .ref (fy 2), .ref (fy 3), .int zy])), ((fy 0), .inl (cB, (30 * k), .inl (ow_nI C2))), ((fy 1), .inl (cB, k, .inl (ow_nI L2))), ((fy 2), .inl (cB, k, .inl (ow_nI K2)))] U.heap ∧ va_K (dC, dI) vwCl [(cI, .int), (cB, .byte), (cJ, .long), (cZ, .boolean)] U ∧ va_D (fun _ => True) [(aX, .inr (10, [.ref (nx 0), .ref (nx 1), .ref (nx 2), .ref (nx 3), .ref (nx 4), .ref (nx 5), .ref (nx 6), .int x7, .int x8, .int x9, .int x10])), ((nx 0), .inl (cI, 24, .inl (ow_nI S.1))), ((nx 1), .inl (cI, 24, .inl (ow_nI S.2))), ((nx 2), .inl (cI, 12, .inl G)), ((nx 3), .inl (cI, 24, .inl Fo)), ((nx 4), .inl (cI, 24, .inl Fc)), (aY, .inr (6, [.ref (fy 0), .ref (fy 1), .ref (fy 2), .ref (fy 3), .int zy])), ((fy 0), .inl (cB, (30 * k), .inl (ow_nI C2))), ((fy 1), .inl (cB, k, .inl (ow_nI L2))), ((fy 2), .inl (cB, k, .inl (ow_nI K2)))])) (va_Qv (fun (g : Unit) => True) (fun g t => va_P (dC, dI) vwCl [(aX, .inr (10, [.ref (nx 0), .ref (nx 1), .ref (nx 2), .ref (nx 3), .ref (nx 4), .ref (nx 5), .ref (nx 6), .int (nI (K2 b)), .int (nI R.2.1.1), .int (nI R.2.1.2.1), .int x10])), ((nx 0), .inl (cI, 24, .inl (ow_nI R.1.1.1))), ((nx 1), .inl (cI, 24, .inl (ow_nI R.1.1.2))), ((nx 2), .inl (cI, 12, .inl R.1.2.1)), ((nx 3), .inl (cI, 24, .inl R.1.2.2.1)), ((nx 4), .inl (cI, 24, .inl R.1.2.2.2)), (aY, .inr (6, [.ref (fy 0), .ref (fy 1), .ref (fy 2), .ref (fy 3), .int zy])), ((fy 0), .inl (cB, (30 * k), .inl (ow_nI C2))), ((fy 1), .inl (cB, k, .inl (ow_nI L2))), ((fy 2), .inl (cB, k, .inl (ow_nI K2)))] t.heap ∧ va_D (va_A [(aX, .inr (10, [.ref (nx 0), .ref (nx 1), .ref (nx 2), .ref (nx 3), .ref (nx 4), .ref (nx 5), .ref (nx 6), .int x7, .int x8, .int x9, .int x10])), ((nx 0), .inl (cI, 24, .inl (ow_nI S.1))), ((nx 1), .inl (cI, 24, .inl (ow_nI S.2))), ((nx 2), .inl (cI, 12, .inl G)), ((nx 3), .inl (cI, 24, .inl Fo)), ((nx 4), .inl (cI, 24, .inl Fc)), (aY, .inr (6, [.ref (fy 0), .ref (fy 1), .ref (fy 2), .ref (fy 3), .int zy])), ((fy 0), .inl (cB, (30 * k), .inl (ow_nI C2))), ((fy 1), .inl (cB, k, .inl (ow_nI L2))), ((fy 2), .inl (cB, k, .inl (ow_nI K2)))] sz) [(aX, .inr (10, [.ref (nx 0), .ref (nx 1), .ref (nx 2), .ref (nx 3), .ref (nx 4), .ref (nx 5), .ref (nx 6), .int (nI (K2 b)), .int (nI R.2.1.1), .int (nI R.2.1.2.1), .int x10])), ((nx 0), .inl (cI, 24, .inl (ow_nI R.1.1.1))), ((nx 1), .inl (cI, 24, .inl (ow_nI R.1.1.2))), ((nx 2), .inl (cI, 12, .inl R.1.2.1)), ((nx 3), .inl (cI, 24, .inl R.1.2.2.1)), ((nx 4), .inl (cI, 24, .inl R.1.2.2.2)), (aY, .inr (6, [.ref (fy 0), .ref (fy 1), .ref (fy 2), .ref (fy 3), .int zy])), ((fy 0), .inl (cB, (30 * k), .inl (ow_nI C2))), ((fy 1), .inl (cB, k, .inl (ow_nI L2))), ((fy 2), .inl (cB, k, .inl (ow_nI K2)))]) (va_A [(aX, .inr (10, [.ref (nx 0), .ref (nx 1), .ref (nx 2), .ref (nx 3), .ref (nx 4), .ref (nx 5), .ref (nx 6), .int x7, .int x8, .int x9, .int x10])), ((nx 0), .inl (cI, 24, .inl (ow_nI S.1))), ((nx 1), .inl (cI, 24, .inl (ow_nI S.2))), ((nx 2), .inl (cI, 12, .inl G)), ((nx 3), .inl (cI, 24, .inl Fo)), ((nx 4), .inl (cI, 24, .inl Fc)), (aY, .inr (6, [.ref (fy 0), .ref (fy 1), .ref (fy 2), .ref (fy 3), .int zy])), ((fy 0), .inl (cB, (30 * k), .inl (ow_nI C2))), ((fy 1), .inl (cB, k, .inl (ow_nI L2))), ((fy 2), .inl (cB, k, .inl (ow_nI K2)))] sz)) 0 0 (va_A [(aX, .inr (10, [.ref (nx 0), .ref (nx 1), .ref (nx 2), .ref (nx 3), .ref (nx 4), .ref (nx 5), .ref (nx 6), .int x7, .int x8, .int x9, .int x10])), ((nx 0), .inl (cI, 24, .inl (ow_nI S.1))), ((nx 1), .inl (cI, 24, .inl (ow_nI S.2))), ((nx 2), .inl (cI, 12, .inl G)), ((nx 3), .inl (cI, 24, .inl Fo)), ((nx 4), .inl (cI, 24, .inl Fc)), (aY, .inr (6, [.ref (fy 0), .ref (fy 1), .ref (fy 2), .ref (fy 3), .int zy])), ((fy 0), .inl (cB, (30 * k), .inl (ow_nI C2))), ((fy 1), .inl (cB, k, .inl (ow_nI L2))), ((fy 2), .inl (cB, k, .inl (ow_nI K2)))] sz) := by
  refine Met.ofW (cc := cX7_load) (maxL := 14) (ret := none) (by decide) rfl ?_
  intro p e s m args below meth c s₁ B hml hv
  obtain ⟨rfl, hsz, hP, hK, hD0⟩ := hv
  have hx := B.exec
  have hb := B.bytes
  have hr := B.returns
  have hts := atoms_spec (ws := wg_X7_load) B.pre
  have hown : s.vm.findClass RX7 = some m.cls := findClass_of_methodNamed B.named
  have hlocks := B.notSynchronized
  subst hsz
  have hD := hD0.self (sz := s.heap.size)
  generalize hAe : va_A [(aX, .inr (10, [.ref (nx 0), .ref (nx 1), .ref (nx 2), .ref (nx 3), .ref (nx 4), .ref (nx 5), .ref (nx 6), .int x7, .int x8, .int x9, .int x10])), ((nx 0), .inl (cI, 24, .inl (ow_nI S.1))), ((nx 1), .inl (cI, 24, .inl (ow_nI S.2))), ((nx 2), .inl (cI, 12, .inl G)), ((nx 3), .inl (cI, 24, .inl Fo)), ((nx 4), .inl (cI, 24, .inl Fc)), (aY, .inr (6, [.ref (fy 0), .ref (fy 1), .ref (fy 2), .ref (fy 3), .int zy])), ((fy 0), .inl (cB, (30 * k), .inl (ow_nI C2))), ((fy 1), .inl (cB, k, .inl (ow_nI L2))), ((fy 2), .inl (cB, k, .inl (ow_nI K2)))] s.heap.size = A at hD ⊢
  have hA : ∀ q : Nat, s.heap.size ≤ q → A q := fun q h => by rw [← hAe]; exact Or.inr h
  have hS : va_S A s.heap s.heap [] := va_S.rf
  have hP : va_P (dC, dI) vwCl [(aX, .inr (10, [.ref (nx 0), .ref (nx 1), .ref (nx 2), .ref (nx 3), .ref (nx 4), .ref (nx 5), .ref (nx 6), .int x7, .int x8, .int x9, .int x10])), ((nx 0), .inl (cI, 24, .inl (ow_nI S.1))), ((nx 1), .inl (cI, 24, .inl (ow_nI S.2))), ((nx 2), .inl (cI, 12, .inl G)), ((nx 3), .inl (cI, 24, .inl Fo)), ((nx 4), .inl (cI, 24, .inl Fc)), (aY, .inr (6, [.ref (fy 0), .ref (fy 1), .ref (fy 2), .ref (fy 3), .int zy])), ((fy 0), .inl (cB, (30 * k), .inl (ow_nI C2))), ((fy 1), .inl (cB, k, .inl (ow_nI L2))), ((fy 2), .inl (cB, k, .inl (ow_nI K2)))] s.heap := hP
  have hl := lv_entry ([.ref aX, .ref aY, .int (nI b)]) (n := 14) (Nat.le_of_ble_eq_true rfl)
  rw [lg_entry_eq]
  generalize (lg_sl ([.ref aX, .ref aY, .int (nI b)]) ++ List.replicate (14 - (lg_sl ([.ref aX, .ref aY, .int (nI b)])).length) Slot.unset).toArray = ls at hl ⊢
  have hl : lv_has ls 14 [(0, .ref aX), (1, .ref aY), (2, .int (nI b))] := hl
  refine ow_named (fun QQ hQQ => ?_)
  suffices key9 : ∀ (H : Heap) (locs : List Loc), va_P (dC, dI) vwCl [(aX, .inr (10, [.ref (nx 0), .ref (nx 1), .ref (nx 2), .ref (nx 3), .ref (nx 4), .ref (nx 5), .ref (nx 6), .int x7, .int x8, .int x9, .int x10])), ((nx 0), .inl (cI, 24, .inl (ow_nI S.1))), ((nx 1), .inl (cI, 24, .inl (ow_nI S.2))), ((nx 2), .inl (cI, 12, .inl G)), ((nx 3), .inl (cI, 24, .inl Fo)), ((nx 4), .inl (cI, 24, .inl Fc)), (aY, .inr (6, [.ref (fy 0), .ref (fy 1), .ref (fy 2), .ref (fy 3), .int zy])), ((fy 0), .inl (cB, (30 * k), .inl (ow_nI C2))), ((fy 1), .inl (cB, k, .inl (ow_nI L2))), ((fy 2), .inl (cB, k, .inl (ow_nI K2)))] H → va_S A s.heap H locs → W p l e ({ frames := 1, cells := 0, slots := 0, locals := 22 } : Room) s m ([.ref aX, .ref aY, .int (nI b)] : List Value).toArray below meth c H locs 0 0 QQ (F0 m 0 ls []) from key9 s.heap [] hP hS
  intro H locs hP hS
  have L46 : ∀ (d i : Nat) (S : ow_NP) (G Fo Fc : Nat → Int32) (ci co ba na lo cn : Nat) (fi la : Option Nat), i + d = L2 b → ba ≤ 12 ∧ na ≤ 12 ∧ lo ≤ i → (fi = none ∨ ∃ f l, fi = some f ∧ la = some l ∧ f < 24 ∧ l < 24) → ld_run (fun i => C2 (30 * b + i)) d i ((S, G, Fo, Fc), (ci, co, ba, na, lo, cn), (fi, la)) = some R → ∀ (H : Heap) (locs : List Loc) (ls : Array Slot), va_P (dC, dI) vwCl [(aX, .inr (10, [.ref (nx 0), .ref (nx 1), .ref (nx 2), .ref (nx 3), .ref (nx 4), .ref (nx 5), .ref (nx 6), .int (nI (K2 b)), .int (nI ci), .int (nI co), .int x10])), ((nx 0), .inl (cI, 24, .inl (ow_nI S.1))), ((nx 1), .inl (cI, 24, .inl (ow_nI S.2))), ((nx 2), .inl (cI, 12, .inl G)), ((nx 3), .inl (cI, 24, .inl Fo)), ((nx 4), .inl (cI, 24, .inl Fc)), (aY, .inr (6, [.ref (fy 0), .ref (fy 1), .ref (fy 2), .ref (fy 3), .int zy])), ((fy 0), .inl (cB, (30 * k), .inl (ow_nI C2))), ((fy 1), .inl (cB, k, .inl (ow_nI L2))), ((fy 2), .inl (cB, k, .inl (ow_nI K2)))] H → va_D A [(aX, .inr (10, [.ref (nx 0), .ref (nx 1), .ref (nx 2), .ref (nx 3), .ref (nx 4), .ref (nx 5), .ref (nx 6), .int (nI (K2 b)), .int (nI ci), .int (nI co), .int x10])), ((nx 0), .inl (cI, 24, .inl (ow_nI S.1))), ((nx 1), .inl (cI, 24, .inl (ow_nI S.2))), ((nx 2), .inl (cI, 12, .inl G)), ((nx 3), .inl (cI, 24, .inl Fo)), ((nx 4), .inl (cI, 24, .inl Fc)), (aY, .inr (6, [.ref (fy 0), .ref (fy 1), .ref (fy 2), .ref (fy 3), .int zy])), ((fy 0), .inl (cB, (30 * k), .inl (ow_nI C2))), ((fy 1), .inl (cB, k, .inl (ow_nI L2))), ((fy 2), .inl (cB, k, .inl (ow_nI K2)))] → va_S A s.heap H locs → lv_has ls 14 [(0, .ref aX), (1, .ref aY), (2, .int (nI b)), (3, .int (nI (30 * b))), (4, .int (nI ba)), (5, .int (nI na)), (6, .int (nI lo)), (7, .int (nI cn)), (8, .int (oI fi)), (9, .int (oI la)), (10, .int (nI i))] → W p l e ({ frames := 1, cells := 0, slots := 0, locals := 22 } : Room) s m ([.ref aX, .ref aY, .int (nI b)] : List Value).toArray below meth c H locs 0 0 QQ (F0 m 46 ls []) := by
    intro d
    induction d with
    | zero =>
      intro i S G Fo Fc ci co ba na lo cn fi la hi hbd hfl hrun H locs ls hP hD hS hl
      have hRe : R = ((S, G, Fo, Fc), (ci, co, ba, na, lo, cn), (fi, la)) := (Option.some.inj hrun).symm
      refine lv_iload hx hb dgX7_load_46 (lv_at hl 10 rfl) ?_
      refine lv_aload_n hx hb dgX7_load_48 rfl (lv_at hl 1 rfl) ?_
      refine va_get (D := (dC, dI)) (ci := 6) (v := .ref (fy 1)) (C := RX3) (T := TX3) (N := 5) hx hb hts (fun _ h => List.mem_cons_of_mem _ (List.mem_append_left _ (List.mem_append_right _ h))) hown hK hP 6 rfl rfl 1 (by decide) (hts (.fieldLink RX7 48 "KnotHouse$Codes" "lengths" "[B") (by decide +kernel)) (fun _ h9 => h9) rfl dgX7_load_49 ?_
      refine lv_iload_n hx hb dgX7_load_52 rfl (lv_at hl 2 rfl) ?_
      refine va_bald hx hb hK hP 8 1 rfl rfl (vp_in_nI (n := b) (N := k) hbk (by omega)) dgX7_load_53 ?_
      refine ow_topi (y := nI (L2 b)) (ow_nI_at L2 (Nat.lt_trans (m := k) hbk (by omega))) ?_
      refine lv_icmp_ge (tgt := 249) hx hb dgX7_load_54 (by decide) (fun _ => ?_) (fun c9 => absurd (nI_le (a := L2 b) (b := i) (by omega) (by omega)) c9)
      subst hRe
      rw [hQQ]
      exact W.vret hx hb hr (fun t ht hW => ⟨⟨(), rfl, trivial, by rw [ht]; exact hP, hD⟩, hS.F ht⟩) hS.2.2 dgX7_load_249
    | succ d ih =>
      intro i S G Fo Fc ci co ba na lo cn fi la hi hbd hfl hrun H locs ls hP hD hS hl
      have hrun : (ld_cell ((S, G, Fo, Fc), (ci, co, ba, na, lo, cn), (fi, la)) (C2 (30 * b + i))).bind (ld_run (fun i => C2 (30 * b + i)) d (i + 1)) = some R := hrun
      have hcl := hC2 (30 * b + i)
      refine lv_iload hx hb dgX7_load_46 (lv_at hl 10 rfl) ?_
      refine lv_aload_n hx hb dgX7_load_48 rfl (lv_at hl 1 rfl) ?_
      refine va_get (D := (dC, dI)) (ci := 6) (v := .ref (fy 1)) (C := RX3) (T := TX3) (N := 5) hx hb hts (fun _ h => List.mem_cons_of_mem _ (List.mem_append_left _ (List.mem_append_right _ h))) hown hK hP 6 rfl rfl 1 (by decide) (hts (.fieldLink RX7 48 "KnotHouse$Codes" "lengths" "[B") (by decide +kernel)) (fun _ h9 => h9) rfl dgX7_load_49 ?_
      refine lv_iload_n hx hb dgX7_load_52 rfl (lv_at hl 2 rfl) ?_
      refine va_bald hx hb hK hP 8 1 rfl rfl (vp_in_nI (n := b) (N := k) hbk (by omega)) dgX7_load_53 ?_
      refine ow_topi (y := nI (L2 b)) (ow_nI_at L2 (Nat.lt_trans (m := k) hbk (by omega))) ?_
      refine lv_icmp_ge (tgt := 249) hx hb dgX7_load_54 (by decide) (fun c9 => absurd c9 (nI_ge (a := i) (b := L2 b) (by omega) (by omega))) (fun _ => ?_)
      refine lv_aload_n hx hb dgX7_load_57 rfl (lv_at hl 1 rfl) ?_
      refine va_get (D := (dC, dI)) (ci := 6) (v := .ref (fy 0)) (C := RX3) (T := TX3) (N := 5) hx hb hts (fun _ h => List.mem_cons_of_mem _ (List.mem_append_left _ (List.mem_append_right _ h))) hown hK hP 6 rfl rfl 0 (by decide) (hts (.fieldLink RX7 51 "KnotHouse$Codes" "cells" "[B") (by decide +kernel)) (fun _ h9 => h9) rfl dgX7_load_58 ?_
      refine lv_iload_n hx hb dgX7_load_61 rfl (lv_at hl 3 rfl) ?_
      refine lv_iload hx hb dgX7_load_62 (lv_at hl 10 rfl) ?_
      refine lv_iadd hx hb dgX7_load_64 ?_
      refine ow_topi (y := nI (30 * b + i)) (nI_add (30 * b) i) ?_
      refine va_bald hx hb hK hP 7 1 rfl rfl (vp_in_nI (n := 30 * b + i) (N := (30 * k)) (by omega) (by omega)) dgX7_load_65 ?_
      refine ow_topi (y := nI (C2 (30 * b + i))) (ow_nI_at C2 (Nat.lt_trans (m := (30 * k)) (by omega) (by omega))) ?_
      refine lv_istore (lv' := [(11, .int (nI (C2 (30 * b + i)))), (0, .ref aX), (1, .ref aY), (2, .int (nI b)), (3, .int (nI (30 * b))), (4, .int (nI ba)), (5, .int (nI na)), (6, .int (nI lo)), (7, .int (nI cn)), (8, .int (oI fi)), (9, .int (oI la)), (10, .int (nI i))]) hx hb dgX7_load_66 hl (by decide) rfl (fun ls hl => ?_)
      generalize hce : C2 (30 * b + i) = ce at hrun hcl hl
      refine lv_iload hx hb dgX7_load_68 (lv_at hl 0 rfl) ?_
      refine lv_if_ne (tgt := 130) hx hb dgX7_load_70 (by decide) (fun c1 => ?_) (fun c1 => ?_)
      · have hc0 : ¬ ce = 0 := fun h9 => c1 (congrArg nI h9)
        have hg : 4 ≤ ce ∧ ba + ce / 4 - 1 < 12 ∧ cn < 24 ∧ (ba + ce / 4 - 1 < na → 0 < lo) := by
          refine Decidable.byContradiction (fun h9 => ?_)
          rw [show ld_cell ((S, G, Fo, Fc), (ci, co, ba, na, lo, cn), (fi, la)) ce = none from (if_neg hc0).trans (if_neg h9)] at hrun
          cases hrun
        have hrun : ld_run (fun i => C2 (30 * b + i)) d (i + 1) (ld_visit S G Fo Fc ci co ba na lo cn fi la (ba + ce / 4 - 1) (2 * (ba + ce / 4 - 1) + ce / 2 % 2) (if ce % 2 = 0 then 1 else -1)) = some R := by rw [show ld_cell ((S, G, Fo, Fc), (ci, co, ba, na, lo, cn), (fi, la)) ce = some _ from (if_neg hc0).trans (if_pos hg)] at hrun; exact hrun
        refine lv_iload hx hb dgX7_load_130 (lv_at hl 5 rfl) ?_
        refine lv_iload hx hb dgX7_load_132 (lv_at hl 0 rfl) ?_
        refine lv_iconst (v := 2) hx hb dgX7_load_134 (by decide) ?_
        refine lv_ishr hx hb dgX7_load_135 ?_
        refine ow_topi (y := nI (ce / 4)) (ow_shr2 (by omega)) ?_
        refine lv_iadd hx hb dgX7_load_136 ?_
        refine ow_topi (y := nI (ba + ce / 4)) (nI_add ba (ce / 4)) ?_
        refine lv_iconst (v := 1) hx hb dgX7_load_137 (by decide) ?_
        refine lv_isub hx hb dgX7_load_138 ?_
        refine ow_topi (y := nI (ba + ce / 4 - 1)) (pk_sub (a := ba + ce / 4) (b := 1) (by omega)) ?_
        generalize hxe : ba + ce / 4 - 1 = x at hg hrun
        obtain ⟨hg4, hx12, hcn24, hlo⟩ := hg
        try rw [hxe]
        refine lv_istore (lv' := [(12, .int (nI x)), (11, .int (nI ce)), (0, .ref aX), (1, .ref aY), (2, .int (nI b)), (3, .int (nI (30 * b))), (4, .int (nI ba)), (5, .int (nI na)), (6, .int (nI lo)), (7, .int (nI cn)), (8, .int (oI fi)), (9, .int (oI la)), (10, .int (nI i))]) hx hb dgX7_load_139 hl (by decide) rfl (fun ls hl => ?_)
        refine lv_iload hx hb dgX7_load_141 (lv_at hl 0 rfl) ?_
        refine lv_iload hx hb dgX7_load_143 (lv_at hl 7 rfl) ?_
        have hv24 : 2 * x + ce / 2 % 2 < 24 := by omega
        refine lv_icmp_lt (tgt := 179) hx hb dgX7_load_145 (by decide) (fun c2 => ?_) (fun c2 => ?_)
        · have hxn : x < na := (nI_ltI (by omega) (by omega)).mp c2
          have hlo1 := hlo hxn
          refine lv_iinc (v := nI (lo - 1)) (lv' := [(6, .int (nI (lo - 1))), (12, .int (nI x)), (11, .int (nI ce)), (0, .ref aX), (1, .ref aY), (2, .int (nI b)), (3, .int (nI (30 * b))), (4, .int (nI ba)), (5, .int (nI na)), (7, .int (nI cn)), (8, .int (oI fi)), (9, .int (oI la)), (10, .int (nI i))]) hx hb dgX7_load_179 hl (k := 8) rfl (ow_dec hlo1) (by decide) rfl (fun ls hl => ?_)
          refine lv_iconst (v := 2) hx hb dgX7_load_182 (by decide) ?_
          refine lv_iload hx hb dgX7_load_183 (lv_at hl 1 rfl) ?_
          refine lv_imul hx hb dgX7_load_185 ?_
          refine ow_topi (y := nI (2 * x)) (pk_mul 2 x) ?_
          refine lv_iload hx hb dgX7_load_186 (lv_at hl 2 rfl) ?_
          refine lv_iconst (v := 1) hx hb dgX7_load_188 (by decide) ?_
          refine lv_ishr hx hb dgX7_load_189 ?_
          refine ow_topi (y := nI (ce / 2)) (ow_shr1 (n := ce) (by omega)) ?_
          refine lv_iconst (v := 1) hx hb dgX7_load_190 (by decide) ?_
          refine lv_iand hx hb dgX7_load_191 ?_
          refine ow_topi (y := nI ((ce / 2) % 2)) (ow_and1 (n := ce / 2) (by omega)) ?_
          refine lv_iadd hx hb dgX7_load_192 ?_
          refine ow_topi (y := nI (2 * x + ce / 2 % 2)) (nI_add (2 * x) (ce / 2 % 2)) ?_
          generalize hve : 2 * x + ce / 2 % 2 = v at hrun hv24
          try rw [hve]
          refine lv_istore (lv' := [(13, .int (nI v)), (6, .int (nI (lo - 1))), (12, .int (nI x)), (11, .int (nI ce)), (0, .ref aX), (1, .ref aY), (2, .int (nI b)), (3, .int (nI (30 * b))), (4, .int (nI ba)), (5, .int (nI na)), (7, .int (nI cn)), (8, .int (oI fi)), (9, .int (oI la)), (10, .int (nI i))]) hx hb dgX7_load_193 hl (by decide) rfl (fun ls hl => ?_)
          refine lv_aload_n hx hb dgX7_load_195 rfl (lv_at hl 4 rfl) ?_
          refine va_get (D := (dC, dI)) (ci := 10) (v := .ref (nx 3)) (C := RX7) (T := TX7) (N := 11) hx hb hts (fun _ h => List.mem_cons_of_mem _ (List.mem_append_left _ (List.mem_append_left _ (List.mem_append_right _ h)))) hown hK hP 0 rfl rfl 3 (by decide) (hts (.fieldLink RX7 21 "KnotHouse$Net" "order" "[I") (by decide +kernel)) (fun _ h9 => h9) rfl dgX7_load_196 ?_
          refine lv_iload hx hb dgX7_load_199 (lv_at hl 10 rfl) ?_
          refine lv_iload hx hb dgX7_load_201 (lv_at hl 0 rfl) ?_
          refine ow_iastF (j := cn) (x := nI v) hx hb hK hP hD hS 4 0 rfl rfl (by omega) (by decide) dgX7_load_203 (fun H locs hP hD hS => ?_)
          have hP : va_P (dC, dI) vwCl [(aX, .inr (10, [.ref (nx 0), .ref (nx 1), .ref (nx 2), .ref (nx 3), .ref (nx 4), .ref (nx 5), .ref (nx 6), .int (nI (K2 b)), .int (nI ci), .int (nI co), .int x10])), ((nx 0), .inl (cI, 24, .inl (ow_nI S.1))), ((nx 1), .inl (cI, 24, .inl (ow_nI S.2))), ((nx 2), .inl (cI, 12, .inl G)), ((nx 3), .inl (cI, 24, .inl (su Fo cn (nI v)))), ((nx 4), .inl (cI, 24, .inl Fc)), (aY, .inr (6, [.ref (fy 0), .ref (fy 1), .ref (fy 2), .ref (fy 3), .int zy])), ((fy 0), .inl (cB, (30 * k), .inl (ow_nI C2))), ((fy 1), .inl (cB, k, .inl (ow_nI L2))), ((fy 2), .inl (cB, k, .inl (ow_nI K2)))] H := hP
          have hD : va_D A [(aX, .inr (10, [.ref (nx 0), .ref (nx 1), .ref (nx 2), .ref (nx 3), .ref (nx 4), .ref (nx 5), .ref (nx 6), .int (nI (K2 b)), .int (nI ci), .int (nI co), .int x10])), ((nx 0), .inl (cI, 24, .inl (ow_nI S.1))), ((nx 1), .inl (cI, 24, .inl (ow_nI S.2))), ((nx 2), .inl (cI, 12, .inl G)), ((nx 3), .inl (cI, 24, .inl (su Fo cn (nI v)))), ((nx 4), .inl (cI, 24, .inl Fc)), (aY, .inr (6, [.ref (fy 0), .ref (fy 1), .ref (fy 2), .ref (fy 3), .int zy])), ((fy 0), .inl (cB, (30 * k), .inl (ow_nI C2))), ((fy 1), .inl (cB, k, .inl (ow_nI L2))), ((fy 2), .inl (cB, k, .inl (ow_nI K2)))] := hD
          refine lv_iinc (v := nI (cn + 1)) (lv' := [(7, .int (nI (cn + 1))), (13, .int (nI v)), (6, .int (nI (lo - 1))), (12, .int (nI x)), (11, .int (nI ce)), (0, .ref aX), (1, .ref aY), (2, .int (nI b)), (3, .int (nI (30 * b))), (4, .int (nI ba)), (5, .int (nI na)), (8, .int (oI fi)), (9, .int (oI la)), (10, .int (nI i))]) hx hb dgX7_load_204 hl (k := 10) rfl (nI_1 cn) (by decide) rfl (fun ls hl => ?_)
          refine lv_aload_n hx hb dgX7_load_207 rfl (lv_at hl 5 rfl) ?_
          refine va_get (D := (dC, dI)) (ci := 10) (v := .ref (nx 4)) (C := RX7) (T := TX7) (N := 11) hx hb hts (fun _ h => List.mem_cons_of_mem _ (List.mem_append_left _ (List.mem_append_left _ (List.mem_append_right _ h)))) hown hK hP 0 rfl rfl 4 (by decide) (hts (.fieldLink RX7 24 "KnotHouse$Net" "component" "[I") (by decide +kernel)) (fun _ h9 => h9) rfl dgX7_load_208 ?_
          refine lv_iload hx hb dgX7_load_211 (lv_at hl 1 rfl) ?_
          refine lv_aload_n hx hb dgX7_load_213 rfl (lv_at hl 5 rfl) ?_
          refine va_get (D := (dC, dI)) (ci := 10) (v := .int (nI co)) (C := RX7) (T := TX7) (N := 11) hx hb hts (fun _ h => List.mem_cons_of_mem _ (List.mem_append_left _ (List.mem_append_left _ (List.mem_append_right _ h)))) hown hK hP 0 rfl rfl 9 (by decide) (hts (.fieldLink RX7 45 "KnotHouse$Net" "components" "I") (by decide +kernel)) (fun _ h9 => h9) rfl dgX7_load_214 ?_
          refine ow_iastF (j := v) (x := nI co) hx hb hK hP hD hS 5 0 rfl rfl (by omega) (by decide) dgX7_load_217 (fun H locs hP hD hS => ?_)
          have hP : va_P (dC, dI) vwCl [(aX, .inr (10, [.ref (nx 0), .ref (nx 1), .ref (nx 2), .ref (nx 3), .ref (nx 4), .ref (nx 5), .ref (nx 6), .int (nI (K2 b)), .int (nI ci), .int (nI co), .int x10])), ((nx 0), .inl (cI, 24, .inl (ow_nI S.1))), ((nx 1), .inl (cI, 24, .inl (ow_nI S.2))), ((nx 2), .inl (cI, 12, .inl G)), ((nx 3), .inl (cI, 24, .inl (su Fo cn (nI v)))), ((nx 4), .inl (cI, 24, .inl (su Fc v (nI co)))), (aY, .inr (6, [.ref (fy 0), .ref (fy 1), .ref (fy 2), .ref (fy 3), .int zy])), ((fy 0), .inl (cB, (30 * k), .inl (ow_nI C2))), ((fy 1), .inl (cB, k, .inl (ow_nI L2))), ((fy 2), .inl (cB, k, .inl (ow_nI K2)))] H := hP
          have hD : va_D A [(aX, .inr (10, [.ref (nx 0), .ref (nx 1), .ref (nx 2), .ref (nx 3), .ref (nx 4), .ref (nx 5), .ref (nx 6), .int (nI (K2 b)), .int (nI ci), .int (nI co), .int x10])), ((nx 0), .inl (cI, 24, .inl (ow_nI S.1))), ((nx 1), .inl (cI, 24, .inl (ow_nI S.2))), ((nx 2), .inl (cI, 12, .inl G)), ((nx 3), .inl (cI, 24, .inl (su Fo cn (nI v)))), ((nx 4), .inl (cI, 24, .inl (su Fc v (nI co)))), (aY, .inr (6, [.ref (fy 0), .ref (fy 1), .ref (fy 2), .ref (fy 3), .int zy])), ((fy 0), .inl (cB, (30 * k), .inl (ow_nI C2))), ((fy 1), .inl (cB, k, .inl (ow_nI L2))), ((fy 2), .inl (cB, k, .inl (ow_nI K2)))] := hD
          refine lv_iload hx hb dgX7_load_218 (lv_at hl 11 rfl) ?_
          refine lv_iconst (v := (-1)) hx hb dgX7_load_220 (by decide) ?_
          rcases hfl with hfi | ⟨f, l9, hfi, hla, hf24, hl24⟩
          · subst hfi
            refine lv_icmp_ne (tgt := 231) hx hb dgX7_load_221 (by decide) (fun c9 => absurd c9 (not_not_intro rfl)) (fun _ => ?_)
            refine lv_iload hx hb dgX7_load_224 (lv_at hl 1 rfl) ?_
            refine lv_istore (lv' := [(8, .int (nI v)), (7, .int (nI (cn + 1))), (13, .int (nI v)), (6, .int (nI (lo - 1))), (12, .int (nI x)), (11, .int (nI ce)), (0, .ref aX), (1, .ref aY), (2, .int (nI b)), (3, .int (nI (30 * b))), (4, .int (nI ba)), (5, .int (nI na)), (9, .int (oI la)), (10, .int (nI i))]) hx hb dgX7_load_226 hl (by decide) rfl (fun ls hl => ?_)
            refine lv_goto (tgt := 239) hx hb dgX7_load_228 (by decide) ?_
            refine lv_iload hx hb dgX7_load_239 (lv_at hl 2 rfl) ?_
            refine lv_istore (lv' := [(9, .int (nI v)), (8, .int (nI v)), (7, .int (nI (cn + 1))), (13, .int (nI v)), (6, .int (nI (lo - 1))), (12, .int (nI x)), (11, .int (nI ce)), (0, .ref aX), (1, .ref aY), (2, .int (nI b)), (3, .int (nI (30 * b))), (4, .int (nI ba)), (5, .int (nI na)), (10, .int (nI i))]) hx hb dgX7_load_241 hl (by decide) rfl (fun ls hl => ?_)
            refine lv_iinc (v := nI (i + 1)) (lv' := [(10, .int (nI (i + 1))), (9, .int (nI v)), (8, .int (nI v)), (7, .int (nI (cn + 1))), (13, .int (nI v)), (6, .int (nI (lo - 1))), (12, .int (nI x)), (11, .int (nI ce)), (0, .ref aX), (1, .ref aY), (2, .int (nI b)), (3, .int (nI (30 * b))), (4, .int (nI ba)), (5, .int (nI na))]) hx hb dgX7_load_243 hl (k := 13) rfl (nI_1 i) (by decide) rfl (fun ls hl => ?_)
            refine lv_goto (tgt := 46) hx hb dgX7_load_246 (by decide) ?_
            refine ih (i + 1) S G (su Fo cn (nI v)) (su Fc v (nI co)) ci co ba na (lo - 1) (cn + 1) (some v) (some v) (by omega) (by omega) (Or.inr ⟨v, v, rfl, rfl, hv24, hv24⟩) ?_ H locs ls hP hD hS (lv_sub hl [8, 9, 10, 11, 12, 13, 5, 3, 2, 1, 0] rfl)
            rw [← hrun, ld_visit, if_pos hxn, if_pos hxn, if_pos hxn]
            rfl
          · subst hfi hla
            have hl : lv_has ls 14 [(7, .int (nI (cn + 1))), (13, .int (nI v)), (6, .int (nI (lo - 1))), (12, .int (nI x)), (11, .int (nI ce)), (0, .ref aX), (1, .ref aY), (2, .int (nI b)), (3, .int (nI (30 * b))), (4, .int (nI ba)), (5, .int (nI na)), (8, .int (nI f)), (9, .int (nI l9)), (10, .int (nI i))] := hl
            refine lv_icmp_ne (tgt := 231) hx hb dgX7_load_221 (by decide) (fun _ => ?_) (fun c9 => absurd c9 (nI_nm1 (by omega)))
            refine lv_aload_n hx hb dgX7_load_231 rfl (lv_at hl 5 rfl) ?_
            refine lv_iload hx hb dgX7_load_232 (lv_at hl 12 rfl) ?_
            refine lv_iload hx hb dgX7_load_234 (lv_at hl 1 rfl) ?_
            have hPc := hP.sub (ws' := [(aX, .inr (10, [.ref (nx 0), .ref (nx 1), .ref (nx 2), .ref (nx 3), .ref (nx 4), .ref (nx 5), .ref (nx 6), .int (nI (K2 b)), .int (nI ci), .int (nI co), .int x10])), ((nx 0), .inl (cI, 24, .inl (ow_nI S.1))), ((nx 1), .inl (cI, 24, .inl (ow_nI S.2)))]) [0, 1, 2] rfl
            have hDc := hD.sub (ws' := [(aX, .inr (10, [.ref (nx 0), .ref (nx 1), .ref (nx 2), .ref (nx 3), .ref (nx 4), .ref (nx 5), .ref (nx 6), .int (nI (K2 b)), .int (nI ci), .int (nI co), .int x10])), ((nx 0), .inl (cI, 24, .inl (ow_nI S.1))), ((nx 1), .inl (cI, 24, .inl (ow_nI S.2)))]) [0, 1, 2] (by decide) rfl
            have hFc := va_free (wc := [(aX, .inr (10, [.ref (nx 0), .ref (nx 1), .ref (nx 2), .ref (nx 3), .ref (nx 4), .ref (nx 5), .ref (nx 6), .int (nI (K2 b)), .int (nI ci), .int (nI co), .int x10])), ((nx 0), .inl (cI, 24, .inl (ow_nI S.1))), ((nx 1), .inl (cI, 24, .inl (ow_nI S.2)))]) hD hS hA [0, 1, 2] rfl
            refine va_callv (va_runV (As := [.int (nI l9), .int (nI v)]) (rest := []) ⟨hx, hb, hml, hown, hts⟩ (kg_X7_link l dC dI cI cB cJ cZ aX nx (nI (K2 b)) (nI ci) (nI co) x10 S l9 v hl24 hv24 H.size) (cwV 2 hts gg_X7_load_0 rfl rfl rfl (by decide +kernel) ⟨(Nat.le_of_ble_eq_true rfl), (Nat.le_of_ble_eq_true rfl)⟩) ⟨fun a U g mk q => by obtain ⟨q0, q1, qP, qK, qD⟩ := q; exact ⟨q0, q1, qP, va_K.moved (u := U) (U := U.calling g mk a) (Vm.Alike.refl U.vm) qK, qD⟩, va_recv hK hPc (ci := 10) (q0 := 0) rfl rfl, fun U hU hW => ⟨rfl, by rw [hU], by rw [hU]; exact hPc, va_K.moved hW.alike hK, hDc.weaken (fun _ _ _ _ => trivial)⟩⟩ rfl rfl hl.1 rfl (lv_room (Nat.le_of_ble_eq_true rfl)) dgX7_load_236 ⟨(Nat.le_of_ble_eq_true rfl), (Nat.le_of_ble_eq_true rfl)⟩) hS (fun q _ h => hFc q h) hFc (fun u9 t H1 locs ht hvm hw hB hz1 hk1 hS => ?_)
            obtain ⟨hP1, hD1⟩ := hB
            rw [ht] at hP1
            obtain ⟨hP, hD⟩ := va_join (wr := [((nx 2), .inl (cI, 12, .inl G)), ((nx 3), .inl (cI, 24, .inl (su Fo cn (nI v)))), ((nx 4), .inl (cI, 24, .inl (su Fc v (nI co)))), (aY, .inr (6, [.ref (fy 0), .ref (fy 1), .ref (fy 2), .ref (fy 3), .int zy])), ((fy 0), .inl (cB, (30 * k), .inl (ow_nI C2))), ((fy 1), .inl (cB, k, .inl (ow_nI L2))), ((fy 2), .inl (cB, k, .inl (ow_nI K2)))]) (w1 := [(aX, .inr (10, [.ref (nx 0), .ref (nx 1), .ref (nx 2), .ref (nx 3), .ref (nx 4), .ref (nx 5), .ref (nx 6), .int (nI (K2 b)), .int (nI ci), .int (nI co), .int x10])), ((nx 0), .inl (cI, 24, .inl (ow_nI (nl S l9 v).1))), ((nx 1), .inl (cI, 24, .inl (ow_nI (nl S l9 v).2)))]) hP hD [0, 1, 2] [3, 4, 5, 6, 7, 8, 9] rfl rfl (by decide) (by decide) hk1 hFc hP1 hD1
            generalize H1 = H at hP hS ⊢
            have hP : va_P (dC, dI) vwCl [((nx 2), .inl (cI, 12, .inl G)), ((nx 3), .inl (cI, 24, .inl (su Fo cn (nI v)))), ((nx 4), .inl (cI, 24, .inl (su Fc v (nI co)))), (aY, .inr (6, [.ref (fy 0), .ref (fy 1), .ref (fy 2), .ref (fy 3), .int zy])), ((fy 0), .inl (cB, (30 * k), .inl (ow_nI C2))), ((fy 1), .inl (cB, k, .inl (ow_nI L2))), ((fy 2), .inl (cB, k, .inl (ow_nI K2))), (aX, .inr (10, [.ref (nx 0), .ref (nx 1), .ref (nx 2), .ref (nx 3), .ref (nx 4), .ref (nx 5), .ref (nx 6), .int (nI (K2 b)), .int (nI ci), .int (nI co), .int x10])), ((nx 0), .inl (cI, 24, .inl (ow_nI (nl S l9 v).1))), ((nx 1), .inl (cI, 24, .inl (ow_nI (nl S l9 v).2)))] H := hP
            have hD : va_D A [((nx 2), .inl (cI, 12, .inl G)), ((nx 3), .inl (cI, 24, .inl (su Fo cn (nI v)))), ((nx 4), .inl (cI, 24, .inl (su Fc v (nI co)))), (aY, .inr (6, [.ref (fy 0), .ref (fy 1), .ref (fy 2), .ref (fy 3), .int zy])), ((fy 0), .inl (cB, (30 * k), .inl (ow_nI C2))), ((fy 1), .inl (cB, k, .inl (ow_nI L2))), ((fy 2), .inl (cB, k, .inl (ow_nI K2))), (aX, .inr (10, [.ref (nx 0), .ref (nx 1), .ref (nx 2), .ref (nx 3), .ref (nx 4), .ref (nx 5), .ref (nx 6), .int (nI (K2 b)), .int (nI ci), .int (nI co), .int x10])), ((nx 0), .inl (cI, 24, .inl (ow_nI (nl S l9 v).1))), ((nx 1), .inl (cI, 24, .inl (ow_nI (nl S l9 v).2)))] := hD
            have hP := hP.sub (ws' := [(aX, .inr (10, [.ref (nx 0), .ref (nx 1), .ref (nx 2), .ref (nx 3), .ref (nx 4), .ref (nx 5), .ref (nx 6), .int (nI (K2 b)), .int (nI ci), .int (nI co), .int x10])), ((nx 0), .inl (cI, 24, .inl (ow_nI (nl S l9 v).1))), ((nx 1), .inl (cI, 24, .inl (ow_nI (nl S l9 v).2))), ((nx 2), .inl (cI, 12, .inl G)), ((nx 3), .inl (cI, 24, .inl (su Fo cn (nI v)))), ((nx 4), .inl (cI, 24, .inl (su Fc v (nI co)))), (aY, .inr (6, [.ref (fy 0), .ref (fy 1), .ref (fy 2), .ref (fy 3), .int zy])), ((fy 0), .inl (cB, (30 * k), .inl (ow_nI C2))), ((fy 1), .inl (cB, k, .inl (ow_nI L2))), ((fy 2), .inl (cB, k, .inl (ow_nI K2)))]) [7, 8, 9, 0, 1, 2, 3, 4, 5, 6] rfl
            have hD := hD.sub (ws' := [(aX, .inr (10, [.ref (nx 0), .ref (nx 1), .ref (nx 2), .ref (nx 3), .ref (nx 4), .ref (nx 5), .ref (nx 6), .int (nI (K2 b)), .int (nI ci), .int (nI co), .int x10])), ((nx 0), .inl (cI, 24, .inl (ow_nI (nl S l9 v).1))), ((nx 1), .inl (cI, 24, .inl (ow_nI (nl S l9 v).2))), ((nx 2), .inl (cI, 12, .inl G)), ((nx 3), .inl (cI, 24, .inl (su Fo cn (nI v)))), ((nx 4), .inl (cI, 24, .inl (su Fc v (nI co)))), (aY, .inr (6, [.ref (fy 0), .ref (fy 1), .ref (fy 2), .ref (fy 3), .int zy])), ((fy 0), .inl (cB, (30 * k), .inl (ow_nI C2))), ((fy 1), .inl (cB, k, .inl (ow_nI L2))), ((fy 2), .inl (cB, k, .inl (ow_nI K2)))]) [7, 8, 9, 0, 1, 2, 3, 4, 5, 6] (by decide) rfl
            refine lv_iload hx hb dgX7_load_239 (lv_at hl 1 rfl) ?_
            refine lv_istore (lv' := [(9, .int (nI v)), (7, .int (nI (cn + 1))), (13, .int (nI v)), (6, .int (nI (lo - 1))), (12, .int (nI x)), (11, .int (nI ce)), (0, .ref aX), (1, .ref aY), (2, .int (nI b)), (3, .int (nI (30 * b))), (4, .int (nI ba)), (5, .int (nI na)), (8, .int (nI f)), (10, .int (nI i))]) hx hb dgX7_load_241 hl (by decide) rfl (fun ls hl => ?_)
            refine lv_iinc (v := nI (i + 1)) (lv' := [(10, .int (nI (i + 1))), (9, .int (nI v)), (7, .int (nI (cn + 1))), (13, .int (nI v)), (6, .int (nI (lo - 1))), (12, .int (nI x)), (11, .int (nI ce)), (0, .ref aX), (1, .ref aY), (2, .int (nI b)), (3, .int (nI (30 * b))), (4, .int (nI ba)), (5, .int (nI na)), (8, .int (nI f))]) hx hb dgX7_load_243 hl (k := 13) rfl (nI_1 i) (by decide) rfl (fun ls hl => ?_)
            refine lv_goto (tgt := 46) hx hb dgX7_load_246 (by decide) ?_
            refine ih (i + 1) (nl S l9 v) G (su Fo cn (nI v)) (su Fc v (nI co)) ci co ba na (lo - 1) (cn + 1) (some f) (some v) (by omega) (by omega) (Or.inr ⟨f, v, rfl, rfl, hf24, hv24⟩) ?_ H locs ls hP hD hS (lv_sub hl [7, 8, 9, 10, 11, 12, 4, 2, 13, 1, 0] rfl)
            rw [← hrun, ld_visit, if_pos hxn, if_pos hxn, if_pos hxn]
            rfl
        · have hxn : ¬ x < na := fun h9 => c2 ((nI_ltI (by omega) (by omega)).mpr h9)
          refine lv_iload hx hb dgX7_load_148 (lv_at hl 0 rfl) ?_
          refine lv_iconst (v := 1) hx hb dgX7_load_150 (by decide) ?_
          refine lv_iadd hx hb dgX7_load_151 ?_
          refine ow_topi (y := nI (x + 1)) (nI_1 (x)) ?_
          refine lv_istore (lv' := [(5, .int (nI (x + 1))), (12, .int (nI x)), (11, .int (nI ce)), (0, .ref aX), (1, .ref aY), (2, .int (nI b)), (3, .int (nI (30 * b))), (4, .int (nI ba)), (6, .int (nI lo)), (7, .int (nI cn)), (8, .int (oI fi)), (9, .int (oI la)), (10, .int (nI i))]) hx hb dgX7_load_152 hl (by decide) rfl (fun ls hl => ?_)
          refine lv_iinc (v := nI (lo + 1)) (lv' := [(6, .int (nI (lo + 1))), (5, .int (nI (x + 1))), (12, .int (nI x)), (11, .int (nI ce)), (0, .ref aX), (1, .ref aY), (2, .int (nI b)), (3, .int (nI (30 * b))), (4, .int (nI ba)), (7, .int (nI cn)), (8, .int (oI fi)), (9, .int (oI la)), (10, .int (nI i))]) hx hb dgX7_load_154 hl (k := 8) rfl (nI_1 lo) (by decide) rfl (fun ls hl => ?_)
          refine lv_aload_n hx hb dgX7_load_157 rfl (lv_at hl 4 rfl) ?_
          refine va_get (D := (dC, dI)) (ci := 10) (v := .ref (nx 2)) (C := RX7) (T := TX7) (N := 11) hx hb hts (fun _ h => List.mem_cons_of_mem _ (List.mem_append_left _ (List.mem_append_left _ (List.mem_append_right _ h)))) hown hK hP 0 rfl rfl 2 (by decide) (hts (.fieldLink RX7 18 "KnotHouse$Net" "sign" "[I") (by decide +kernel)) (fun _ h9 => h9) rfl dgX7_load_158 ?_
          refine lv_iload hx hb dgX7_load_161 (lv_at hl 2 rfl) ?_
          refine lv_iload hx hb dgX7_load_163 (lv_at hl 3 rfl) ?_
          refine lv_iconst (v := 1) hx hb dgX7_load_165 (by decide) ?_
          refine lv_iand hx hb dgX7_load_166 ?_
          refine ow_topi (y := nI (ce % 2)) (ow_and1 (n := ce) (by omega)) ?_
          rcases Nat.mod_two_eq_zero_or_one ce with hm2 | hm2
          · rw [if_pos hm2] at hrun
            refine lv_if_ne (tgt := 174) hx hb dgX7_load_167 (by decide) (fun c9 => absurd c9 (not_not_intro (congrArg nI hm2))) (fun _ => ?_)
            refine lv_iconst (v := 1) hx hb dgX7_load_170 (by decide) ?_
            refine lv_goto (tgt := 175) hx hb dgX7_load_171 (by decide) ?_
            refine ow_iastF (j := x) (x := 1) hx hb hK hP hD hS 3 0 rfl rfl (by omega) (by decide) dgX7_load_175 (fun H locs hP hD hS => ?_)
            have hP : va_P (dC, dI) vwCl [(aX, .inr (10, [.ref (nx 0), .ref (nx 1), .ref (nx 2), .ref (nx 3), .ref (nx 4), .ref (nx 5), .ref (nx 6), .int (nI (K2 b)), .int (nI ci), .int (nI co), .int x10])), ((nx 0), .inl (cI, 24, .inl (ow_nI S.1))), ((nx 1), .inl (cI, 24, .inl (ow_nI S.2))), ((nx 2), .inl (cI, 12, .inl (su G x 1))), ((nx 3), .inl (cI, 24, .inl Fo)), ((nx 4), .inl (cI, 24, .inl Fc)), (aY, .inr (6, [.ref (fy 0), .ref (fy 1), .ref (fy 2), .ref (fy 3), .int zy])), ((fy 0), .inl (cB, (30 * k), .inl (ow_nI C2))), ((fy 1), .inl (cB, k, .inl (ow_nI L2))), ((fy 2), .inl (cB, k, .inl (ow_nI K2)))] H := hP
            have hD : va_D A [(aX, .inr (10, [.ref (nx 0), .ref (nx 1), .ref (nx 2), .ref (nx 3), .ref (nx 4), .ref (nx 5), .ref (nx 6), .int (nI (K2 b)), .int (nI ci), .int (nI co), .int x10])), ((nx 0), .inl (cI, 24, .inl (ow_nI S.1))), ((nx 1), .inl (cI, 24, .inl (ow_nI S.2))), ((nx 2), .inl (cI, 12, .inl (su G x 1))), ((nx 3), .inl (cI, 24, .inl Fo)), ((nx 4), .inl (cI, 24, .inl Fc)), (aY, .inr (6, [.ref (fy 0), .ref (fy 1), .ref (fy 2), .ref (fy 3), .int zy])), ((fy 0), .inl (cB, (30 * k), .inl (ow_nI C2))), ((fy 1), .inl (cB, k, .inl (ow_nI L2))), ((fy 2), .inl (cB, k, .inl (ow_nI K2)))] := hD
            refine lv_goto (tgt := 182) hx hb dgX7_load_176 (by decide) ?_
            refine lv_iconst (v := 2) hx hb dgX7_load_182 (by decide) ?_
            refine lv_iload hx hb dgX7_load_183 (lv_at hl 2 rfl) ?_
            refine lv_imul hx hb dgX7_load_185 ?_
            refine ow_topi (y := nI (2 * x)) (pk_mul 2 x) ?_
            refine lv_iload hx hb dgX7_load_186 (lv_at hl 3 rfl) ?_
            refine lv_iconst (v := 1) hx hb dgX7_load_188 (by decide) ?_
            refine lv_ishr hx hb dgX7_load_189 ?_
            refine ow_topi (y := nI (ce / 2)) (ow_shr1 (n := ce) (by omega)) ?_
            refine lv_iconst (v := 1) hx hb dgX7_load_190 (by decide) ?_
            refine lv_iand hx hb dgX7_load_191 ?_
            refine ow_topi (y := nI ((ce / 2) % 2)) (ow_and1 (n := ce / 2) (by omega)) ?_
            refine lv_iadd hx hb dgX7_load_192 ?_
            refine ow_topi (y := nI (2 * x + ce / 2 % 2)) (nI_add (2 * x) (ce / 2 % 2)) ?_
            generalize hve : 2 * x + ce / 2 % 2 = v at hrun hv24
            try rw [hve]
            refine lv_istore (lv' := [(13, .int (nI v)), (6, .int (nI (lo + 1))), (5, .int (nI (x + 1))), (12, .int (nI x)), (11, .int (nI ce)), (0, .ref aX), (1, .ref aY), (2, .int (nI b)), (3, .int (nI (30 * b))), (4, .int (nI ba)), (7, .int (nI cn)), (8, .int (oI fi)), (9, .int (oI la)), (10, .int (nI i))]) hx hb dgX7_load_193 hl (by decide) rfl (fun ls hl => ?_)
            refine lv_aload_n hx hb dgX7_load_195 rfl (lv_at hl 5 rfl) ?_
            refine va_get (D := (dC, dI)) (ci := 10) (v := .ref (nx 3)) (C := RX7) (T := TX7) (N := 11) hx hb hts (fun _ h => List.mem_cons_of_mem _ (List.mem_append_left _ (List.mem_append_left _ (List.mem_append_right _ h)))) hown hK hP 0 rfl rfl 3 (by decide) (hts (.fieldLink RX7 21 "KnotHouse$Net" "order" "[I") (by decide +kernel)) (fun _ h9 => h9) rfl dgX7_load_196 ?_
            refine lv_iload hx hb dgX7_load_199 (lv_at hl 10 rfl) ?_
            refine lv_iload hx hb dgX7_load_201 (lv_at hl 0 rfl) ?_
            refine ow_iastF (j := cn) (x := nI v) hx hb hK hP hD hS 4 0 rfl rfl (by omega) (by decide) dgX7_load_203 (fun H locs hP hD hS => ?_)
            have hP : va_P (dC, dI) vwCl [(aX, .inr (10, [.ref (nx 0), .ref (nx 1), .ref (nx 2), .ref (nx 3), .ref (nx 4), .ref (nx 5), .ref (nx 6), .int (nI (K2 b)), .int (nI ci), .int (nI co), .int x10])), ((nx 0), .inl (cI, 24, .inl (ow_nI S.1))), ((nx 1), .inl (cI, 24, .inl (ow_nI S.2))), ((nx 2), .inl (cI, 12, .inl (su G x 1))), ((nx 3), .inl (cI, 24, .inl (su Fo cn (nI v)))), ((nx 4), .inl (cI, 24, .inl Fc)), (aY, .inr (6, [.ref (fy 0), .ref (fy 1), .ref (fy 2), .ref (fy 3), .int zy])), ((fy 0), .inl (cB, (30 * k), .inl (ow_nI C2))), ((fy 1), .inl (cB, k, .inl (ow_nI L2))), ((fy 2), .inl (cB, k, .inl (ow_nI K2)))] H := hP
            have hD : va_D A [(aX, .inr (10, [.ref (nx 0), .ref (nx 1), .ref (nx 2), .ref (nx 3), .ref (nx 4), .ref (nx 5), .ref (nx 6), .int (nI (K2 b)), .int (nI ci), .int (nI co), .int x10])), ((nx 0), .inl (cI, 24, .inl (ow_nI S.1))), ((nx 1), .inl (cI, 24, .inl (ow_nI S.2))), ((nx 2), .inl (cI, 12, .inl (su G x 1))), ((nx 3), .inl (cI, 24, .inl (su Fo cn (nI v)))), ((nx 4), .inl (cI, 24, .inl Fc)), (aY, .inr (6, [.ref (fy 0), .ref (fy 1), .ref (fy 2), .ref (fy 3), .int zy])), ((fy 0), .inl (cB, (30 * k), .inl (ow_nI C2))), ((fy 1), .inl (cB, k, .inl (ow_nI L2))), ((fy 2), .inl (cB, k, .inl (ow_nI K2)))] := hD
            refine lv_iinc (v := nI (cn + 1)) (lv' := [(7, .int (nI (cn + 1))), (13, .int (nI v)), (6, .int (nI (lo + 1))), (5, .int (nI (x + 1))), (12, .int (nI x)), (11, .int (nI ce)), (0, .ref aX), (1, .ref aY), (2, .int (nI b)), (3, .int (nI (30 * b))), (4, .int (nI ba)), (8, .int (oI fi)), (9, .int (oI la)), (10, .int (nI i))]) hx hb dgX7_load_204 hl (k := 10) rfl (nI_1 cn) (by decide) rfl (fun ls hl => ?_)
            refine lv_aload_n hx hb dgX7_load_207 rfl (lv_at hl 6 rfl) ?_
            refine va_get (D := (dC, dI)) (ci := 10) (v := .ref (nx 4)) (C := RX7) (T := TX7) (N := 11) hx hb hts (fun _ h => List.mem_cons_of_mem _ (List.mem_append_left _ (List.mem_append_left _ (List.mem_append_right _ h)))) hown hK hP 0 rfl rfl 4 (by decide) (hts (.fieldLink RX7 24 "KnotHouse$Net" "component" "[I") (by decide +kernel)) (fun _ h9 => h9) rfl dgX7_load_208 ?_
            refine lv_iload hx hb dgX7_load_211 (lv_at hl 1 rfl) ?_
            refine lv_aload_n hx hb dgX7_load_213 rfl (lv_at hl 6 rfl) ?_
            refine va_get (D := (dC, dI)) (ci := 10) (v := .int (nI co)) (C := RX7) (T := TX7) (N := 11) hx hb hts (fun _ h => List.mem_cons_of_mem _ (List.mem_append_left _ (List.mem_append_left _ (List.mem_append_right _ h)))) hown hK hP 0 rfl rfl 9 (by decide) (hts (.fieldLink RX7 45 "KnotHouse$Net" "components" "I") (by decide +kernel)) (fun _ h9 => h9) rfl dgX7_load_214 ?_
            refine ow_iastF (j := v) (x := nI co) hx hb hK hP hD hS 5 0 rfl rfl (by omega) (by decide) dgX7_load_217 (fun H locs hP hD hS => ?_)
            have hP : va_P (dC, dI) vwCl [(aX, .inr (10, [.ref (nx 0), .ref (nx 1), .ref (nx 2), .ref (nx 3), .ref (nx 4), .ref (nx 5), .ref (nx 6), .int (nI (K2 b)), .int (nI ci), .int (nI co), .int x10])), ((nx 0), .inl (cI, 24, .inl (ow_nI S.1))), ((nx 1), .inl (cI, 24, .inl (ow_nI S.2))), ((nx 2), .inl (cI, 12, .inl (su G x 1))), ((nx 3), .inl (cI, 24, .inl (su Fo cn (nI v)))), ((nx 4), .inl (cI, 24, .inl (su Fc v (nI co)))), (aY, .inr (6, [.ref (fy 0), .ref (fy 1), .ref (fy 2), .ref (fy 3), .int zy])), ((fy 0), .inl (cB, (30 * k), .inl (ow_nI C2))), ((fy 1), .inl (cB, k, .inl (ow_nI L2))), ((fy 2), .inl (cB, k, .inl (ow_nI K2)))] H := hP
            have hD : va_D A [(aX, .inr (10, [.ref (nx 0), .ref (nx 1), .ref (nx 2), .ref (nx 3), .ref (nx 4), .ref (nx 5), .ref (nx 6), .int (nI (K2 b)), .int (nI ci), .int (nI co), .int x10])), ((nx 0), .inl (cI, 24, .inl (ow_nI S.1))), ((nx 1), .inl (cI, 24, .inl (ow_nI S.2))), ((nx 2), .inl (cI, 12, .inl (su G x 1))), ((nx 3), .inl (cI, 24, .inl (su Fo cn (nI v)))), ((nx 4), .inl (cI, 24, .inl (su Fc v (nI co)))), (aY, .inr (6, [.ref (fy 0), .ref (fy 1), .ref (fy 2), .ref (fy 3), .int zy])), ((fy 0), .inl (cB, (30 * k), .inl (ow_nI C2))), ((fy 1), .inl (cB, k, .inl (ow_nI L2))), ((fy 2), .inl (cB, k, .inl (ow_nI K2)))] := hD
            refine lv_iload hx hb dgX7_load_218 (lv_at hl 11 rfl) ?_
            refine lv_iconst (v := (-1)) hx hb dgX7_load_220 (by decide) ?_
            rcases hfl with hfi | ⟨f, l9, hfi, hla, hf24, hl24⟩
            · subst hfi
              refine lv_icmp_ne (tgt := 231) hx hb dgX7_load_221 (by decide) (fun c9 => absurd c9 (not_not_intro rfl)) (fun _ => ?_)
              refine lv_iload hx hb dgX7_load_224 (lv_at hl 1 rfl) ?_
              refine lv_istore (lv' := [(8, .int (nI v)), (7, .int (nI (cn + 1))), (13, .int (nI v)), (6, .int (nI (lo + 1))), (5, .int (nI (x + 1))), (12, .int (nI x)), (11, .int (nI ce)), (0, .ref aX), (1, .ref aY), (2, .int (nI b)), (3, .int (nI (30 * b))), (4, .int (nI ba)), (9, .int (oI la)), (10, .int (nI i))]) hx hb dgX7_load_226 hl (by decide) rfl (fun ls hl => ?_)
              refine lv_goto (tgt := 239) hx hb dgX7_load_228 (by decide) ?_
              refine lv_iload hx hb dgX7_load_239 (lv_at hl 2 rfl) ?_
              refine lv_istore (lv' := [(9, .int (nI v)), (8, .int (nI v)), (7, .int (nI (cn + 1))), (13, .int (nI v)), (6, .int (nI (lo + 1))), (5, .int (nI (x + 1))), (12, .int (nI x)), (11, .int (nI ce)), (0, .ref aX), (1, .ref aY), (2, .int (nI b)), (3, .int (nI (30 * b))), (4, .int (nI ba)), (10, .int (nI i))]) hx hb dgX7_load_241 hl (by decide) rfl (fun ls hl => ?_)
              refine lv_iinc (v := nI (i + 1)) (lv' := [(10, .int (nI (i + 1))), (9, .int (nI v)), (8, .int (nI v)), (7, .int (nI (cn + 1))), (13, .int (nI v)), (6, .int (nI (lo + 1))), (5, .int (nI (x + 1))), (12, .int (nI x)), (11, .int (nI ce)), (0, .ref aX), (1, .ref aY), (2, .int (nI b)), (3, .int (nI (30 * b))), (4, .int (nI ba))]) hx hb dgX7_load_243 hl (k := 13) rfl (nI_1 i) (by decide) rfl (fun ls hl => ?_)
              refine lv_goto (tgt := 46) hx hb dgX7_load_246 (by decide) ?_
              refine ih (i + 1) S (su G x 1) (su Fo cn (nI v)) (su Fc v (nI co)) ci co ba (x + 1) (lo + 1) (cn + 1) (some v) (some v) (by omega) (by omega) (Or.inr ⟨v, v, rfl, rfl, hv24, hv24⟩) ?_ H locs ls hP hD hS (lv_sub hl [9, 10, 11, 12, 13, 6, 5, 3, 2, 1, 0] rfl)
              rw [← hrun, ld_visit, if_neg hxn, if_neg hxn, if_neg hxn]
              rfl
            · subst hfi hla
              have hl : lv_has ls 14 [(7, .int (nI (cn + 1))), (13, .int (nI v)), (6, .int (nI (lo + 1))), (5, .int (nI (x + 1))), (12, .int (nI x)), (11, .int (nI ce)), (0, .ref aX), (1, .ref aY), (2, .int (nI b)), (3, .int (nI (30 * b))), (4, .int (nI ba)), (8, .int (nI f)), (9, .int (nI l9)), (10, .int (nI i))] := hl
              refine lv_icmp_ne (tgt := 231) hx hb dgX7_load_221 (by decide) (fun _ => ?_) (fun c9 => absurd c9 (nI_nm1 (by omega)))
              refine lv_aload_n hx hb dgX7_load_231 rfl (lv_at hl 6 rfl) ?_
              refine lv_iload hx hb dgX7_load_232 (lv_at hl 12 rfl) ?_
              refine lv_iload hx hb dgX7_load_234 (lv_at hl 1 rfl) ?_
              have hPc := hP.sub (ws' := [(aX, .inr (10, [.ref (nx 0), .ref (nx 1), .ref (nx 2), .ref (nx 3), .ref (nx 4), .ref (nx 5), .ref (nx 6), .int (nI (K2 b)), .int (nI ci), .int (nI co), .int x10])), ((nx 0), .inl (cI, 24, .inl (ow_nI S.1))), ((nx 1), .inl (cI, 24, .inl (ow_nI S.2)))]) [0, 1, 2] rfl
              have hDc := hD.sub (ws' := [(aX, .inr (10, [.ref (nx 0), .ref (nx 1), .ref (nx 2), .ref (nx 3), .ref (nx 4), .ref (nx 5), .ref (nx 6), .int (nI (K2 b)), .int (nI ci), .int (nI co), .int x10])), ((nx 0), .inl (cI, 24, .inl (ow_nI S.1))), ((nx 1), .inl (cI, 24, .inl (ow_nI S.2)))]) [0, 1, 2] (by decide) rfl
              have hFc := va_free (wc := [(aX, .inr (10, [.ref (nx 0), .ref (nx 1), .ref (nx 2), .ref (nx 3), .ref (nx 4), .ref (nx 5), .ref (nx 6), .int (nI (K2 b)), .int (nI ci), .int (nI co), .int x10])), ((nx 0), .inl (cI, 24, .inl (ow_nI S.1))), ((nx 1), .inl (cI, 24, .inl (ow_nI S.2)))]) hD hS hA [0, 1, 2] rfl
              refine va_callv (va_runV (As := [.int (nI l9), .int (nI v)]) (rest := []) ⟨hx, hb, hml, hown, hts⟩ (kg_X7_link l dC dI cI cB cJ cZ aX nx (nI (K2 b)) (nI ci) (nI co) x10 S l9 v hl24 hv24 H.size) (cwV 2 hts gg_X7_load_0 rfl rfl rfl (by decide +kernel) ⟨(Nat.le_of_ble_eq_true rfl), (Nat.le_of_ble_eq_true rfl)⟩) ⟨fun a U g mk q => by obtain ⟨q0, q1, qP, qK, qD⟩ := q; exact ⟨q0, q1, qP, va_K.moved (u := U) (U := U.calling g mk a) (Vm.Alike.refl U.vm) qK, qD⟩, va_recv hK hPc (ci := 10) (q0 := 0) rfl rfl, fun U hU hW => ⟨rfl, by rw [hU], by rw [hU]; exact hPc, va_K.moved hW.alike hK, hDc.weaken (fun _ _ _ _ => trivial)⟩⟩ rfl rfl hl.1 rfl (lv_room (Nat.le_of_ble_eq_true rfl)) dgX7_load_236 ⟨(Nat.le_of_ble_eq_true rfl), (Nat.le_of_ble_eq_true rfl)⟩) hS (fun q _ h => hFc q h) hFc (fun u9 t H1 locs ht hvm hw hB hz1 hk1 hS => ?_)
              obtain ⟨hP1, hD1⟩ := hB
              rw [ht] at hP1
              obtain ⟨hP, hD⟩ := va_join (wr := [((nx 2), .inl (cI, 12, .inl (su G x 1))), ((nx 3), .inl (cI, 24, .inl (su Fo cn (nI v)))), ((nx 4), .inl (cI, 24, .inl (su Fc v (nI co)))), (aY, .inr (6, [.ref (fy 0), .ref (fy 1), .ref (fy 2), .ref (fy 3), .int zy])), ((fy 0), .inl (cB, (30 * k), .inl (ow_nI C2))), ((fy 1), .inl (cB, k, .inl (ow_nI L2))), ((fy 2), .inl (cB, k, .inl (ow_nI K2)))]) (w1 := [(aX, .inr (10, [.ref (nx 0), .ref (nx 1), .ref (nx 2), .ref (nx 3), .ref (nx 4), .ref (nx 5), .ref (nx 6), .int (nI (K2 b)), .int (nI ci), .int (nI co), .int x10])), ((nx 0), .inl (cI, 24, .inl (ow_nI (nl S l9 v).1))), ((nx 1), .inl (cI, 24, .inl (ow_nI (nl S l9 v).2)))]) hP hD [0, 1, 2] [3, 4, 5, 6, 7, 8, 9] rfl rfl (by decide) (by decide) hk1 hFc hP1 hD1
              generalize H1 = H at hP hS ⊢
              have hP : va_P (dC, dI) vwCl [((nx 2), .inl (cI, 12, .inl (su G x 1))), ((nx 3), .inl (cI, 24, .inl (su Fo cn (nI v)))), ((nx 4), .inl (cI, 24, .inl (su Fc v (nI co)))), (aY, .inr (6, [.ref (fy 0), .ref (fy 1), .ref (fy 2), .ref (fy 3), .int zy])), ((fy 0), .inl (cB, (30 * k), .inl (ow_nI C2))), ((fy 1), .inl (cB, k, .inl (ow_nI L2))), ((fy 2), .inl (cB, k, .inl (ow_nI K2))), (aX, .inr (10, [.ref (nx 0), .ref (nx 1), .ref (nx 2), .ref (nx 3), .ref (nx 4), .ref (nx 5), .ref (nx 6), .int (nI (K2 b)), .int (nI ci), .int (nI co), .int x10])), ((nx 0), .inl (cI, 24, .inl (ow_nI (nl S l9 v).1))), ((nx 1), .inl (cI, 24, .inl (ow_nI (nl S l9 v).2)))] H := hP
              have hD : va_D A [((nx 2), .inl (cI, 12, .inl (su G x 1))), ((nx 3), .inl (cI, 24, .inl (su Fo cn (nI v)))), ((nx 4), .inl (cI, 24, .inl (su Fc v (nI co)))), (aY, .inr (6, [.ref (fy 0), .ref (fy 1), .ref (fy 2), .ref (fy 3), .int zy])), ((fy 0), .inl (cB, (30 * k), .inl (ow_nI C2))), ((fy 1), .inl (cB, k, .inl (ow_nI L2))), ((fy 2), .inl (cB, k, .inl (ow_nI K2))), (aX, .inr (10, [.ref (nx 0), .ref (nx 1), .ref (nx 2), .ref (nx 3), .ref (nx 4), .ref (nx 5), .ref (nx 6), .int (nI (K2 b)), .int (nI ci), .int (nI co), .int x10])), ((nx 0), .inl (cI, 24, .inl (ow_nI (nl S l9 v).1))), ((nx 1), .inl (cI, 24, .inl (ow_nI (nl S l9 v).2)))] := hD
              have hP := hP.sub (ws' := [(aX, .inr (10, [.ref (nx 0), .ref (nx 1), .ref (nx 2), .ref (nx 3), .ref (nx 4), .ref (nx 5), .ref (nx 6), .int (nI (K2 b)), .int (nI ci), .int (nI co), .int x10])), ((nx 0), .inl (cI, 24, .inl (ow_nI (nl S l9 v).1))), ((nx 1), .inl (cI, 24, .inl (ow_nI (nl S l9 v).2))), ((nx 2), .inl (cI, 12, .inl (su G x 1))), ((nx 3), .inl (cI, 24, .inl (su Fo cn (nI v)))), ((nx 4), .inl (cI, 24, .inl (su Fc v (nI co)))), (aY, .inr (6, [.ref (fy 0), .ref (fy 1), .ref (fy 2), .ref (fy 3), .int zy])), ((fy 0), .inl (cB, (30 * k), .inl (ow_nI C2))), ((fy 1), .inl (cB, k, .inl (ow_nI L2))), ((fy 2), .inl (cB, k, .inl (ow_nI K2)))]) [7, 8, 9, 0, 1, 2, 3, 4, 5, 6] rfl
              have hD := hD.sub (ws' := [(aX, .inr (10, [.ref (nx 0), .ref (nx 1), .ref (nx 2), .ref (nx 3), .ref (nx 4), .ref (nx 5), .ref (nx 6), .int (nI (K2 b)), .int (nI ci), .int (nI co), .int x10])), ((nx 0), .inl (cI, 24, .inl (ow_nI (nl S l9 v).1))), ((nx 1), .inl (cI, 24, .inl (ow_nI (nl S l9 v).2))), ((nx 2), .inl (cI, 12, .inl (su G x 1))), ((nx 3), .inl (cI, 24, .inl (su Fo cn (nI v)))), ((nx 4), .inl (cI, 24, .inl (su Fc v (nI co)))), (aY, .inr (6, [.ref (fy 0), .ref (fy 1), .ref (fy 2), .ref (fy 3), .int zy])), ((fy 0), .inl (cB, (30 * k), .inl (ow_nI C2))), ((fy 1), .inl (cB, k, .inl (ow_nI L2))), ((fy 2), .inl (cB, k, .inl (ow_nI K2)))]) [7, 8, 9, 0, 1, 2, 3, 4, 5, 6] (by decide) rfl
              refine lv_iload hx hb dgX7_load_239 (lv_at hl 1 rfl) ?_
              refine lv_istore (lv' := [(9, .int (nI v)), (7, .int (nI (cn + 1))), (13, .int (nI v)), (6, .int (nI (lo + 1))), (5, .int (nI (x + 1))), (12, .int (nI x)), (11, .int (nI ce)), (0, .ref aX), (1, .ref aY), (2, .int (nI b)), (3, .int (nI (30 * b))), (4, .int (nI ba)), (8, .int (nI f)), (10, .int (nI i))]) hx hb dgX7_load_241 hl (by decide) rfl (fun ls hl => ?_)
              refine lv_iinc (v := nI (i + 1)) (lv' := [(10, .int (nI (i + 1))), (9, .int (nI v)), (7, .int (nI (cn + 1))), (13, .int (nI v)), (6, .int (nI (lo + 1))), (5, .int (nI (x + 1))), (12, .int (nI x)), (11, .int (nI ce)), (0, .ref aX), (1, .ref aY), (2, .int (nI b)), (3, .int (nI (30 * b))), (4, .int (nI ba)), (8, .int (nI f))]) hx hb dgX7_load_243 hl (k := 13) rfl (nI_1 i) (by decide) rfl (fun ls hl => ?_)
              refine lv_goto (tgt := 46) hx hb dgX7_load_246 (by decide) ?_
              refine ih (i + 1) (nl S l9 v) (su G x 1) (su Fo cn (nI v)) (su Fc v (nI co)) ci co ba (x + 1) (lo + 1) (cn + 1) (some f) (some v) (by omega) (by omega) (Or.inr ⟨f, v, rfl, rfl, hf24, hv24⟩) ?_ H locs ls hP hD hS (lv_sub hl [8, 9, 10, 11, 12, 5, 4, 2, 13, 1, 0] rfl)
              rw [← hrun, ld_visit, if_neg hxn, if_neg hxn, if_neg hxn]
              rfl
          · rw [if_neg (by omega)] at hrun
            refine lv_if_ne (tgt := 174) hx hb dgX7_load_167 (by decide) (fun _ => ?_) (fun c9 => absurd c9 (by rw [hm2]; decide))
            refine lv_iconst (v := (-1)) hx hb dgX7_load_174 (by decide) ?_
            refine ow_iastF (j := x) (x := -1) hx hb hK hP hD hS 3 0 rfl rfl (by omega) (by decide) dgX7_load_175 (fun H locs hP hD hS => ?_)
            have hP : va_P (dC, dI) vwCl [(aX, .inr (10, [.ref (nx 0), .ref (nx 1), .ref (nx 2), .ref (nx 3), .ref (nx 4), .ref (nx 5), .ref (nx 6), .int (nI (K2 b)), .int (nI ci), .int (nI co), .int x10])), ((nx 0), .inl (cI, 24, .inl (ow_nI S.1))), ((nx 1), .inl (cI, 24, .inl (ow_nI S.2))), ((nx 2), .inl (cI, 12, .inl (su G x (-1)))), ((nx 3), .inl (cI, 24, .inl Fo)), ((nx 4), .inl (cI, 24, .inl Fc)), (aY, .inr (6, [.ref (fy 0), .ref (fy 1), .ref (fy 2), .ref (fy 3), .int zy])), ((fy 0), .inl (cB, (30 * k), .inl (ow_nI C2))), ((fy 1), .inl (cB, k, .inl (ow_nI L2))), ((fy 2), .inl (cB, k, .inl (ow_nI K2)))] H := hP
            have hD : va_D A [(aX, .inr (10, [.ref (nx 0), .ref (nx 1), .ref (nx 2), .ref (nx 3), .ref (nx 4), .ref (nx 5), .ref (nx 6), .int (nI (K2 b)), .int (nI ci), .int (nI co), .int x10])), ((nx 0), .inl (cI, 24, .inl (ow_nI S.1))), ((nx 1), .inl (cI, 24, .inl (ow_nI S.2))), ((nx 2), .inl (cI, 12, .inl (su G x (-1)))), ((nx 3), .inl (cI, 24, .inl Fo)), ((nx 4), .inl (cI, 24, .inl Fc)), (aY, .inr (6, [.ref (fy 0), .ref (fy 1), .ref (fy 2), .ref (fy 3), .int zy])), ((fy 0), .inl (cB, (30 * k), .inl (ow_nI C2))), ((fy 1), .inl (cB, k, .inl (ow_nI L2))), ((fy 2), .inl (cB, k, .inl (ow_nI K2)))] := hD
            refine lv_goto (tgt := 182) hx hb dgX7_load_176 (by decide) ?_
            refine lv_iconst (v := 2) hx hb dgX7_load_182 (by decide) ?_
            refine lv_iload hx hb dgX7_load_183 (lv_at hl 2 rfl) ?_
            refine lv_imul hx hb dgX7_load_185 ?_
            refine ow_topi (y := nI (2 * x)) (pk_mul 2 x) ?_
            refine lv_iload hx hb dgX7_load_186 (lv_at hl 3 rfl) ?_
            refine lv_iconst (v := 1) hx hb dgX7_load_188 (by decide) ?_
            refine lv_ishr hx hb dgX7_load_189 ?_
            refine ow_topi (y := nI (ce / 2)) (ow_shr1 (n := ce) (by omega)) ?_
            refine lv_iconst (v := 1) hx hb dgX7_load_190 (by decide) ?_
            refine lv_iand hx hb dgX7_load_191 ?_
            refine ow_topi (y := nI ((ce / 2) % 2)) (ow_and1 (n := ce / 2) (by omega)) ?_
            refine lv_iadd hx hb dgX7_load_192 ?_
            refine ow_topi (y := nI (2 * x + ce / 2 % 2)) (nI_add (2 * x) (ce / 2 % 2)) ?_
            generalize hve : 2 * x + ce / 2 % 2 = v at hrun hv24
            try rw [hve]
            refine lv_istore (lv' := [(13, .int (nI v)), (6, .int (nI (lo + 1))), (5, .int (nI (x + 1))), (12, .int (nI x)), (11, .int (nI ce)), (0, .ref aX), (1, .ref aY), (2, .int (nI b)), (3, .int (nI (30 * b))), (4, .int (nI ba)), (7, .int (nI cn)), (8, .int (oI fi)), (9, .int (oI la)), (10, .int (nI i))]) hx hb dgX7_load_193 hl (by decide) rfl (fun ls hl => ?_)
            refine lv_aload_n hx hb dgX7_load_195 rfl (lv_at hl 5 rfl) ?_
            refine va_get (D := (dC, dI)) (ci := 10) (v := .ref (nx 3)) (C := RX7) (T := TX7) (N := 11) hx hb hts (fun _ h => List.mem_cons_of_mem _ (List.mem_append_left _ (List.mem_append_left _ (List.mem_append_right _ h)))) hown hK hP 0 rfl rfl 3 (by decide) (hts (.fieldLink RX7 21 "KnotHouse$Net" "order" "[I") (by decide +kernel)) (fun _ h9 => h9) rfl dgX7_load_196 ?_
            refine lv_iload hx hb dgX7_load_199 (lv_at hl 10 rfl) ?_
            refine lv_iload hx hb dgX7_load_201 (lv_at hl 0 rfl) ?_
            refine ow_iastF (j := cn) (x := nI v) hx hb hK hP hD hS 4 0 rfl rfl (by omega) (by decide) dgX7_load_203 (fun H locs hP hD hS => ?_)
            have hP : va_P (dC, dI) vwCl [(aX, .inr (10, [.ref (nx 0), .ref (nx 1), .ref (nx 2), .ref (nx 3), .ref (nx 4), .ref (nx 5), .ref (nx 6), .int (nI (K2 b)), .int (nI ci), .int (nI co), .int x10])), ((nx 0), .inl (cI, 24, .inl (ow_nI S.1))), ((nx 1), .inl (cI, 24, .inl (ow_nI S.2))), ((nx 2), .inl (cI, 12, .inl (su G x (-1)))), ((nx 3), .inl (cI, 24, .inl (su Fo cn (nI v)))), ((nx 4), .inl (cI, 24, .inl Fc)), (aY, .inr (6, [.ref (fy 0), .ref (fy 1), .ref (fy 2), .ref (fy 3), .int zy])), ((fy 0), .inl (cB, (30 * k), .inl (ow_nI C2))), ((fy 1), .inl (cB, k, .inl (ow_nI L2))), ((fy 2), .inl (cB, k, .inl (ow_nI K2)))] H := hP
            have hD : va_D A [(aX, .inr (10, [.ref (nx 0), .ref (nx 1), .ref (nx 2), .ref (nx 3), .ref (nx 4), .ref (nx 5), .ref (nx 6), .int (nI (K2 b)), .int (nI ci), .int (nI co), .int x10])), ((nx 0), .inl (cI, 24, .inl (ow_nI S.1))), ((nx 1), .inl (cI, 24, .inl (ow_nI S.2))), ((nx 2), .inl (cI, 12, .inl (su G x (-1)))), ((nx 3), .inl (cI, 24, .inl (su Fo cn (nI v)))), ((nx 4), .inl (cI, 24, .inl Fc)), (aY, .inr (6, [.ref (fy 0), .ref (fy 1), .ref (fy 2), .ref (fy 3), .int zy])), ((fy 0), .inl (cB, (30 * k), .inl (ow_nI C2))), ((fy 1), .inl (cB, k, .inl (ow_nI L2))), ((fy 2), .inl (cB, k, .inl (ow_nI K2)))] := hD
            refine lv_iinc (v := nI (cn + 1)) (lv' := [(7, .int (nI (cn + 1))), (13, .int (nI v)), (6, .int (nI (lo + 1))), (5, .int (nI (x + 1))), (12, .int (nI x)), (11, .int (nI ce)), (0, .ref aX), (1, .ref aY), (2, .int (nI b)), (3, .int (nI (30 * b))), (4, .int (nI ba)), (8, .int (oI fi)), (9, .int (oI la)), (10, .int (nI i))]) hx hb dgX7_load_204 hl (k := 10) rfl (nI_1 cn) (by decide) rfl (fun ls hl => ?_)
            refine lv_aload_n hx hb dgX7_load_207 rfl (lv_at hl 6 rfl) ?_
            refine va_get (D := (dC, dI)) (ci := 10) (v := .ref (nx 4)) (C := RX7) (T := TX7) (N := 11) hx hb hts (fun _ h => List.mem_cons_of_mem _ (List.mem_append_left _ (List.mem_append_left _ (List.mem_append_right _ h)))) hown hK hP 0 rfl rfl 4 (by decide) (hts (.fieldLink RX7 24 "KnotHouse$Net" "component" "[I") (by decide +kernel)) (fun _ h9 => h9) rfl dgX7_load_208 ?_
            refine lv_iload hx hb dgX7_load_211 (lv_at hl 1 rfl) ?_
            refine lv_aload_n hx hb dgX7_load_213 rfl (lv_at hl 6 rfl) ?_
            refine va_get (D := (dC, dI)) (ci := 10) (v := .int (nI co)) (C := RX7) (T := TX7) (N := 11) hx hb hts (fun _ h => List.mem_cons_of_mem _ (List.mem_append_left _ (List.mem_append_left _ (List.mem_append_right _ h)))) hown hK hP 0 rfl rfl 9 (by decide) (hts (.fieldLink RX7 45 "KnotHouse$Net" "components" "I") (by decide +kernel)) (fun _ h9 => h9) rfl dgX7_load_214 ?_
            refine ow_iastF (j := v) (x := nI co) hx hb hK hP hD hS 5 0 rfl rfl (by omega) (by decide) dgX7_load_217 (fun H locs hP hD hS => ?_)
            have hP : va_P (dC, dI) vwCl [(aX, .inr (10, [.ref (nx 0), .ref (nx 1), .ref (nx 2), .ref (nx 3), .ref (nx 4), .ref (nx 5), .ref (nx 6), .int (nI (K2 b)), .int (nI ci), .int (nI co), .int x10])), ((nx 0), .inl (cI, 24, .inl (ow_nI S.1))), ((nx 1), .inl (cI, 24, .inl (ow_nI S.2))), ((nx 2), .inl (cI, 12, .inl (su G x (-1)))), ((nx 3), .inl (cI, 24, .inl (su Fo cn (nI v)))), ((nx 4), .inl (cI, 24, .inl (su Fc v (nI co)))), (aY, .inr (6, [.ref (fy 0), .ref (fy 1), .ref (fy 2), .ref (fy 3), .int zy])), ((fy 0), .inl (cB, (30 * k), .inl (ow_nI C2))), ((fy 1), .inl (cB, k, .inl (ow_nI L2))), ((fy 2), .inl (cB, k, .inl (ow_nI K2)))] H := hP
            have hD : va_D A [(aX, .inr (10, [.ref (nx 0), .ref (nx 1), .ref (nx 2), .ref (nx 3), .ref (nx 4), .ref (nx 5), .ref (nx 6), .int (nI (K2 b)), .int (nI ci), .int (nI co), .int x10])), ((nx 0), .inl (cI, 24, .inl (ow_nI S.1))), ((nx 1), .inl (cI, 24, .inl (ow_nI S.2))), ((nx 2), .inl (cI, 12, .inl (su G x (-1)))), ((nx 3), .inl (cI, 24, .inl (su Fo cn (nI v)))), ((nx 4), .inl (cI, 24, .inl (su Fc v (nI co)))), (aY, .inr (6, [.ref (fy 0), .ref (fy 1), .ref (fy 2), .ref (fy 3), .int zy])), ((fy 0), .inl (cB, (30 * k), .inl (ow_nI C2))), ((fy 1), .inl (cB, k, .inl (ow_nI L2))), ((fy 2), .inl (cB, k, .inl (ow_nI K2)))] := hD
            refine lv_iload hx hb dgX7_load_218 (lv_at hl 11 rfl) ?_
            refine lv_iconst (v := (-1)) hx hb dgX7_load_220 (by decide) ?_
            rcases hfl with hfi | ⟨f, l9, hfi, hla, hf24, hl24⟩
            · subst hfi
              refine lv_icmp_ne (tgt := 231) hx hb dgX7_load_221 (by decide) (fun c9 => absurd c9 (not_not_intro rfl)) (fun _ => ?_)
              refine lv_iload hx hb dgX7_load_224 (lv_at hl 1 rfl) ?_
              refine lv_istore (lv' := [(8, .int (nI v)), (7, .int (nI (cn + 1))), (13, .int (nI v)), (6, .int (nI (lo + 1))), (5, .int (nI (x + 1))), (12, .int (nI x)), (11, .int (nI ce)), (0, .ref aX), (1, .ref aY), (2, .int (nI b)), (3, .int (nI (30 * b))), (4, .int (nI ba)), (9, .int (oI la)), (10, .int (nI i))]) hx hb dgX7_load_226 hl (by decide) rfl (fun ls hl => ?_)
              refine lv_goto (tgt := 239) hx hb dgX7_load_228 (by decide) ?_
              refine lv_iload hx hb dgX7_load_239 (lv_at hl 2 rfl) ?_
              refine lv_istore (lv' := [(9, .int (nI v)), (8, .int (nI v)), (7, .int (nI (cn + 1))), (13, .int (nI v)), (6, .int (nI (lo + 1))), (5, .int (nI (x + 1))), (12, .int (nI x)), (11, .int (nI ce)), (0, .ref aX), (1, .ref aY), (2, .int (nI b)), (3, .int (nI (30 * b))), (4, .int (nI ba)), (10, .int (nI i))]) hx hb dgX7_load_241 hl (by decide) rfl (fun ls hl => ?_)
              refine lv_iinc (v := nI (i + 1)) (lv' := [(10, .int (nI (i + 1))), (9, .int (nI v)), (8, .int (nI v)), (7, .int (nI (cn + 1))), (13, .int (nI v)), (6, .int (nI (lo + 1))), (5, .int (nI (x + 1))), (12, .int (nI x)), (11, .int (nI ce)), (0, .ref aX), (1, .ref aY), (2, .int (nI b)), (3, .int (nI (30 * b))), (4, .int (nI ba))]) hx hb dgX7_load_243 hl (k := 13) rfl (nI_1 i) (by decide) rfl (fun ls hl => ?_)
              refine lv_goto (tgt := 46) hx hb dgX7_load_246 (by decide) ?_
              refine ih (i + 1) S (su G x (-1)) (su Fo cn (nI v)) (su Fc v (nI co)) ci co ba (x + 1) (lo + 1) (cn + 1) (some v) (some v) (by omega) (by omega) (Or.inr ⟨v, v, rfl, rfl, hv24, hv24⟩) ?_ H locs ls hP hD hS (lv_sub hl [9, 10, 11, 12, 13, 6, 5, 3, 2, 1, 0] rfl)
              rw [← hrun, ld_visit, if_neg hxn, if_neg hxn, if_neg hxn]
              rfl
            · subst hfi hla
              have hl : lv_has ls 14 [(7, .int (nI (cn + 1))), (13, .int (nI v)), (6, .int (nI (lo + 1))), (5, .int (nI (x + 1))), (12, .int (nI x)), (11, .int (nI ce)), (0, .ref aX), (1, .ref aY), (2, .int (nI b)), (3, .int (nI (30 * b))), (4, .int (nI ba)), (8, .int (nI f)), (9, .int (nI l9)), (10, .int (nI i))] := hl
              refine lv_icmp_ne (tgt := 231) hx hb dgX7_load_221 (by decide) (fun _ => ?_) (fun c9 => absurd c9 (nI_nm1 (by omega)))
              refine lv_aload_n hx hb dgX7_load_231 rfl (lv_at hl 6 rfl) ?_
              refine lv_iload hx hb dgX7_load_232 (lv_at hl 12 rfl) ?_
              refine lv_iload hx hb dgX7_load_234 (lv_at hl 1 rfl) ?_
              have hPc := hP.sub (ws' := [(aX, .inr (10, [.ref (nx 0), .ref (nx 1), .ref (nx 2), .ref (nx 3), .ref (nx 4), .ref (nx 5), .ref (nx 6), .int (nI (K2 b)), .int (nI ci), .int (nI co), .int x10])), ((nx 0), .inl (cI, 24, .inl (ow_nI S.1))), ((nx 1), .inl (cI, 24, .inl (ow_nI S.2)))]) [0, 1, 2] rfl
              have hDc := hD.sub (ws' := [(aX, .inr (10, [.ref (nx 0), .ref (nx 1), .ref (nx 2), .ref (nx 3), .ref (nx 4), .ref (nx 5), .ref (nx 6), .int (nI (K2 b)), .int (nI ci), .int (nI co), .int x10])), ((nx 0), .inl (cI, 24, .inl (ow_nI S.1))), ((nx 1), .inl (cI, 24, .inl (ow_nI S.2)))]) [0, 1, 2] (by decide) rfl
              have hFc := va_free (wc := [(aX, .inr (10, [.ref (nx 0), .ref (nx 1), .ref (nx 2), .ref (nx 3), .ref (nx 4), .ref (nx 5), .ref (nx 6), .int (nI (K2 b)), .int (nI ci), .int (nI co), .int x10])), ((nx 0), .inl (cI, 24, .inl (ow_nI S.1))), ((nx 1), .inl (cI, 24, .inl (ow_nI S.2)))]) hD hS hA [0, 1, 2] rfl
              refine va_callv (va_runV (As := [.int (nI l9), .int (nI v)]) (rest := []) ⟨hx, hb, hml, hown, hts⟩ (kg_X7_link l dC dI cI cB cJ cZ aX nx (nI (K2 b)) (nI ci) (nI co) x10 S l9 v hl24 hv24 H.size) (cwV 2 hts gg_X7_load_0 rfl rfl rfl (by decide +kernel) ⟨(Nat.le_of_ble_eq_true rfl), (Nat.le_of_ble_eq_true rfl)⟩) ⟨fun a U g mk q => by obtain ⟨q0, q1, qP, qK, qD⟩ := q; exact ⟨q0, q1, qP, va_K.moved (u := U) (U := U.calling g mk a) (Vm.Alike.refl U.vm) qK, qD⟩, va_recv hK hPc (ci := 10) (q0 := 0) rfl rfl, fun U hU hW => ⟨rfl, by rw [hU], by rw [hU]; exact hPc, va_K.moved hW.alike hK, hDc.weaken (fun _ _ _ _ => trivial)⟩⟩ rfl rfl hl.1 rfl (lv_room (Nat.le_of_ble_eq_true rfl)) dgX7_load_236 ⟨(Nat.le_of_ble_eq_true rfl), (Nat.le_of_ble_eq_true rfl)⟩) hS (fun q _ h => hFc q h) hFc (fun u9 t H1 locs ht hvm hw hB hz1 hk1 hS => ?_)
              obtain ⟨hP1, hD1⟩ := hB
              rw [ht] at hP1
              obtain ⟨hP, hD⟩ := va_join (wr := [((nx 2), .inl (cI, 12, .inl (su G x (-1)))), ((nx 3), .inl (cI, 24, .inl (su Fo cn (nI v)))), ((nx 4), .inl (cI, 24, .inl (su Fc v (nI co)))), (aY, .inr (6, [.ref (fy 0), .ref (fy 1), .ref (fy 2), .ref (fy 3), .int zy])), ((fy 0), .inl (cB, (30 * k), .inl (ow_nI C2))), ((fy 1), .inl (cB, k, .inl (ow_nI L2))), ((fy 2), .inl (cB, k, .inl (ow_nI K2)))]) (w1 := [(aX, .inr (10, [.ref (nx 0), .ref (nx 1), .ref (nx 2), .ref (nx 3), .ref (nx 4), .ref (nx 5), .ref (nx 6), .int (nI (K2 b)), .int (nI ci), .int (nI co), .int x10])), ((nx 0), .inl (cI, 24, .inl (ow_nI (nl S l9 v).1))), ((nx 1), .inl (cI, 24, .inl (ow_nI (nl S l9 v).2)))]) hP hD [0, 1, 2] [3, 4, 5, 6, 7, 8, 9] rfl rfl (by decide) (by decide) hk1 hFc hP1 hD1
              generalize H1 = H at hP hS ⊢
              have hP : va_P (dC, dI) vwCl [((nx 2), .inl (cI, 12, .inl (su G x (-1)))), ((nx 3), .inl (cI, 24, .inl (su Fo cn (nI v)))), ((nx 4), .inl (cI, 24, .inl (su Fc v (nI co)))), (aY, .inr (6, [.ref (fy 0), .ref (fy 1), .ref (fy 2), .ref (fy 3), .int zy])), ((fy 0), .inl (cB, (30 * k), .inl (ow_nI C2))), ((fy 1), .inl (cB, k, .inl (ow_nI L2))), ((fy 2), .inl (cB, k, .inl (ow_nI K2))), (aX, .inr (10, [.ref (nx 0), .ref (nx 1), .ref (nx 2), .ref (nx 3), .ref (nx 4), .ref (nx 5), .ref (nx 6), .int (nI (K2 b)), .int (nI ci), .int (nI co), .int x10])), ((nx 0), .inl (cI, 24, .inl (ow_nI (nl S l9 v).1))), ((nx 1), .inl (cI, 24, .inl (ow_nI (nl S l9 v).2)))] H := hP
              have hD : va_D A [((nx 2), .inl (cI, 12, .inl (su G x (-1)))), ((nx 3), .inl (cI, 24, .inl (su Fo cn (nI v)))), ((nx 4), .inl (cI, 24, .inl (su Fc v (nI co)))), (aY, .inr (6, [.ref (fy 0), .ref (fy 1), .ref (fy 2), .ref (fy 3), .int zy])), ((fy 0), .inl (cB, (30 * k), .inl (ow_nI C2))), ((fy 1), .inl (cB, k, .inl (ow_nI L2))), ((fy 2), .inl (cB, k, .inl (ow_nI K2))), (aX, .inr (10, [.ref (nx 0), .ref (nx 1), .ref (nx 2), .ref (nx 3), .ref (nx 4), .ref (nx 5), .ref (nx 6), .int (nI (K2 b)), .int (nI ci), .int (nI co), .int x10])), ((nx 0), .inl (cI, 24, .inl (ow_nI (nl S l9 v).1))), ((nx 1), .inl (cI, 24, .inl (ow_nI (nl S l9 v).2)))] := hD
              have hP := hP.sub (ws' := [(aX, .inr (10, [.ref (nx 0), .ref (nx 1), .ref (nx 2), .ref (nx 3), .ref (nx 4), .ref (nx 5), .ref (nx 6), .int (nI (K2 b)), .int (nI ci), .int (nI co), .int x10])), ((nx 0), .inl (cI, 24, .inl (ow_nI (nl S l9 v).1))), ((nx 1), .inl (cI, 24, .inl (ow_nI (nl S l9 v).2))), ((nx 2), .inl (cI, 12, .inl (su G x (-1)))), ((nx 3), .inl (cI, 24, .inl (su Fo cn (nI v)))), ((nx 4), .inl (cI, 24, .inl (su Fc v (nI co)))), (aY, .inr (6, [.ref (fy 0), .ref (fy 1), .ref (fy 2), .ref (fy 3), .int zy])), ((fy 0), .inl (cB, (30 * k), .inl (ow_nI C2))), ((fy 1), .inl (cB, k, .inl (ow_nI L2))), ((fy 2), .inl (cB, k, .inl (ow_nI K2)))]) [7, 8, 9, 0, 1, 2, 3, 4, 5, 6] rfl
              have hD := hD.sub (ws' := [(aX, .inr (10, [.ref (nx 0), .ref (nx 1), .ref (nx 2), .ref (nx 3), .ref (nx 4), .ref (nx 5), .ref (nx 6), .int (nI (K2 b)), .int (nI ci), .int (nI co), .int x10])), ((nx 0), .inl (cI, 24, .inl (ow_nI (nl S l9 v).1))), ((nx 1), .inl (cI, 24, .inl (ow_nI (nl S l9 v).2))), ((nx 2), .inl (cI, 12, .inl (su G x (-1)))), ((nx 3), .inl (cI, 24, .inl (su Fo cn (nI v)))), ((nx 4), .inl (cI, 24, .inl (su Fc v (nI co)))), (aY, .inr (6, [.ref (fy 0), .ref (fy 1), .ref (fy 2), .ref (fy 3), .int zy])), ((fy 0), .inl (cB, (30 * k), .inl (ow_nI C2))), ((fy 1), .inl (cB, k, .inl (ow_nI L2))), ((fy 2), .inl (cB, k, .inl (ow_nI K2)))]) [7, 8, 9, 0, 1, 2, 3, 4, 5, 6] (by decide) rfl
              refine lv_iload hx hb dgX7_load_239 (lv_at hl 1 rfl) ?_
              refine lv_istore (lv' := [(9, .int (nI v)), (7, .int (nI (cn + 1))), (13, .int (nI v)), (6, .int (nI (lo + 1))), (5, .int (nI (x + 1))), (12, .int (nI x)), (11, .int (nI ce)), (0, .ref aX), (1, .ref aY), (2, .int (nI b)), (3, .int (nI (30 * b))), (4, .int (nI ba)), (8, .int (nI f)), (10, .int (nI i))]) hx hb dgX7_load_241 hl (by decide) rfl (fun ls hl => ?_)
              refine lv_iinc (v := nI (i + 1)) (lv' := [(10, .int (nI (i + 1))), (9, .int (nI v)), (7, .int (nI (cn + 1))), (13, .int (nI v)), (6, .int (nI (lo + 1))), (5, .int (nI (x + 1))), (12, .int (nI x)), (11, .int (nI ce)), (0, .ref aX), (1, .ref aY), (2, .int (nI b)), (3, .int (nI (30 * b))), (4, .int (nI ba)), (8, .int (nI f))]) hx hb dgX7_load_243 hl (k := 13) rfl (nI_1 i) (by decide) rfl (fun ls hl => ?_)
              refine lv_goto (tgt := 46) hx hb dgX7_load_246 (by decide) ?_
              refine ih (i + 1) (nl S l9 v) (su G x (-1)) (su Fo cn (nI v)) (su Fc v (nI co)) ci co ba (x + 1) (lo + 1) (cn + 1) (some f) (some v) (by omega) (by omega) (Or.inr ⟨f, v, rfl, rfl, hf24, hv24⟩) ?_ H locs ls hP hD hS (lv_sub hl [8, 9, 10, 11, 12, 5, 4, 2, 13, 1, 0] rfl)
              rw [← hrun, ld_visit, if_neg hxn, if_neg hxn, if_neg hxn]
              rfl
      · have hc0 : ce = 0 := ow_nI_inj (by omega) (by omega) c1
        have hrun : ld_run (fun i => C2 (30 * b + i)) d (i + 1) (ld_zero S G Fo Fc ci co ba na lo cn fi la) = some R := by rw [show ld_cell ((S, G, Fo, Fc), (ci, co, ba, na, lo, cn), (fi, la)) ce = some (ld_zero S G Fo Fc ci co ba na lo cn fi la) from if_pos hc0] at hrun; exact hrun
        rcases hfl with hfi | ⟨f, l9, hfi, hla, hf24, hl24⟩
        · subst hfi
          refine lv_iload hx hb dgX7_load_73 (lv_at hl 9 rfl) ?_
          refine lv_iconst (v := (-1)) hx hb dgX7_load_75 (by decide) ?_
          refine lv_icmp_ne (tgt := 92) hx hb dgX7_load_76 (by decide) (fun c9 => absurd c9 (not_not_intro rfl)) (fun _ => ?_)
          refine lv_aload_n hx hb dgX7_load_79 rfl (lv_at hl 1 rfl) ?_
          refine lv_dup hx hb dgX7_load_80 rfl ?_
          refine va_get (D := (dC, dI)) (ci := 10) (v := .int (nI ci)) (C := RX7) (T := TX7) (N := 11) hx hb hts (fun _ h => List.mem_cons_of_mem _ (List.mem_append_left _ (List.mem_append_left _ (List.mem_append_right _ h)))) hown hK hP 0 rfl rfl 8 (by decide) (hts (.fieldLink RX7 42 "KnotHouse$Net" "circles" "I") (by decide +kernel)) (fun _ h9 => h9) rfl dgX7_load_81 ?_
          refine lv_iconst (v := 1) hx hb dgX7_load_84 (by decide) ?_
          refine lv_iadd hx hb dgX7_load_85 ?_
          refine ow_topi (y := nI (ci + 1)) (nI_1 ci) ?_
          refine va_put (D := (dC, dI)) (ci := 10) (v := .int (nI (ci + 1))) (ty := .int) (C := RX7) (T := TX7) (N := 11) hx hb hts (fun _ h => List.mem_cons_of_mem _ (List.mem_append_left _ (List.mem_append_left _ (List.mem_append_right _ h)))) tyX7 tyX7_ok nmX7 hown hK hP hD hS 0 rfl rfl 8 (by decide) (hts (.fieldLink RX7 42 "KnotHouse$Net" "circles" "I") (by decide +kernel)) (fun _ h9 => h9) rfl (by decide +kernel) rfl rfl (Nat.le_of_ble_eq_true rfl) dgX7_load_86 (fun H locs hP hD hS => ?_)
          have hP : va_P (dC, dI) vwCl [(aX, .inr (10, [.ref (nx 0), .ref (nx 1), .ref (nx 2), .ref (nx 3), .ref (nx 4), .ref (nx 5), .ref (nx 6), .int (nI (K2 b)), .int (nI (ci + 1)), .int (nI co), .int x10])), ((nx 0), .inl (cI, 24, .inl (ow_nI S.1))), ((nx 1), .inl (cI, 24, .inl (ow_nI S.2))), ((nx 2), .inl (cI, 12, .inl G)), ((nx 3), .inl (cI, 24, .inl Fo)), ((nx 4), .inl (cI, 24, .inl Fc)), (aY, .inr (6, [.ref (fy 0), .ref (fy 1), .ref (fy 2), .ref (fy 3), .int zy])), ((fy 0), .inl (cB, (30 * k), .inl (ow_nI C2))), ((fy 1), .inl (cB, k, .inl (ow_nI L2))), ((fy 2), .inl (cB, k, .inl (ow_nI K2)))] H := hP
          have hD : va_D A [(aX, .inr (10, [.ref (nx 0), .ref (nx 1), .ref (nx 2), .ref (nx 3), .ref (nx 4), .ref (nx 5), .ref (nx 6), .int (nI (K2 b)), .int (nI (ci + 1)), .int (nI co), .int x10])), ((nx 0), .inl (cI, 24, .inl (ow_nI S.1))), ((nx 1), .inl (cI, 24, .inl (ow_nI S.2))), ((nx 2), .inl (cI, 12, .inl G)), ((nx 3), .inl (cI, 24, .inl Fo)), ((nx 4), .inl (cI, 24, .inl Fc)), (aY, .inr (6, [.ref (fy 0), .ref (fy 1), .ref (fy 2), .ref (fy 3), .int zy])), ((fy 0), .inl (cB, (30 * k), .inl (ow_nI C2))), ((fy 1), .inl (cB, k, .inl (ow_nI L2))), ((fy 2), .inl (cB, k, .inl (ow_nI K2)))] := hD
          refine lv_goto (tgt := 100) hx hb dgX7_load_89 (by decide) ?_
          refine lv_aload_n hx hb dgX7_load_100 rfl (lv_at hl 1 rfl) ?_
          refine lv_dup hx hb dgX7_load_101 rfl ?_
          refine va_get (D := (dC, dI)) (ci := 10) (v := .int (nI co)) (C := RX7) (T := TX7) (N := 11) hx hb hts (fun _ h => List.mem_cons_of_mem _ (List.mem_append_left _ (List.mem_append_left _ (List.mem_append_right _ h)))) hown hK hP 0 rfl rfl 9 (by decide) (hts (.fieldLink RX7 45 "KnotHouse$Net" "components" "I") (by decide +kernel)) (fun _ h9 => h9) rfl dgX7_load_102 ?_
          refine lv_iconst (v := 1) hx hb dgX7_load_105 (by decide) ?_
          refine lv_iadd hx hb dgX7_load_106 ?_
          refine ow_topi (y := nI (co + 1)) (nI_1 co) ?_
          refine va_put (D := (dC, dI)) (ci := 10) (v := .int (nI (co + 1))) (ty := .int) (C := RX7) (T := TX7) (N := 11) hx hb hts (fun _ h => List.mem_cons_of_mem _ (List.mem_append_left _ (List.mem_append_left _ (List.mem_append_right _ h)))) tyX7 tyX7_ok nmX7 hown hK hP hD hS 0 rfl rfl 9 (by decide) (hts (.fieldLink RX7 45 "KnotHouse$Net" "components" "I") (by decide +kernel)) (fun _ h9 => h9) rfl (by decide +kernel) rfl rfl (Nat.le_of_ble_eq_true rfl) dgX7_load_107 (fun H locs hP hD hS => ?_)
          have hP : va_P (dC, dI) vwCl [(aX, .inr (10, [.ref (nx 0), .ref (nx 1), .ref (nx 2), .ref (nx 3), .ref (nx 4), .ref (nx 5), .ref (nx 6), .int (nI (K2 b)), .int (nI (ci + 1)), .int (nI (co + 1)), .int x10])), ((nx 0), .inl (cI, 24, .inl (ow_nI S.1))), ((nx 1), .inl (cI, 24, .inl (ow_nI S.2))), ((nx 2), .inl (cI, 12, .inl G)), ((nx 3), .inl (cI, 24, .inl Fo)), ((nx 4), .inl (cI, 24, .inl Fc)), (aY, .inr (6, [.ref (fy 0), .ref (fy 1), .ref (fy 2), .ref (fy 3), .int zy])), ((fy 0), .inl (cB, (30 * k), .inl (ow_nI C2))), ((fy 1), .inl (cB, k, .inl (ow_nI L2))), ((fy 2), .inl (cB, k, .inl (ow_nI K2)))] H := hP
          have hD : va_D A [(aX, .inr (10, [.ref (nx 0), .ref (nx 1), .ref (nx 2), .ref (nx 3), .ref (nx 4), .ref (nx 5), .ref (nx 6), .int (nI (K2 b)), .int (nI (ci + 1)), .int (nI (co + 1)), .int x10])), ((nx 0), .inl (cI, 24, .inl (ow_nI S.1))), ((nx 1), .inl (cI, 24, .inl (ow_nI S.2))), ((nx 2), .inl (cI, 12, .inl G)), ((nx 3), .inl (cI, 24, .inl Fo)), ((nx 4), .inl (cI, 24, .inl Fc)), (aY, .inr (6, [.ref (fy 0), .ref (fy 1), .ref (fy 2), .ref (fy 3), .int zy])), ((fy 0), .inl (cB, (30 * k), .inl (ow_nI C2))), ((fy 1), .inl (cB, k, .inl (ow_nI L2))), ((fy 2), .inl (cB, k, .inl (ow_nI K2)))] := hD
          refine lv_iconst (v := (-1)) hx hb dgX7_load_110 (by decide) ?_
          refine lv_istore (lv' := [(8, .int (-1)), (11, .int (nI ce)), (0, .ref aX), (1, .ref aY), (2, .int (nI b)), (3, .int (nI (30 * b))), (4, .int (nI ba)), (5, .int (nI na)), (6, .int (nI lo)), (7, .int (nI cn)), (9, .int (oI la)), (10, .int (nI i))]) hx hb dgX7_load_111 hl (by decide) rfl (fun ls hl => ?_)
          refine lv_iload hx hb dgX7_load_113 (lv_at hl 8 rfl) ?_
          rcases Nat.eq_zero_or_pos lo with hlo | hlo
          · refine lv_if_ne (tgt := 123) hx hb dgX7_load_115 (by decide) (fun c9 => absurd c9 (not_not_intro (congrArg nI hlo))) (fun _ => ?_)
            refine lv_iload hx hb dgX7_load_118 (lv_at hl 7 rfl) ?_
            refine lv_goto (tgt := 125) hx hb dgX7_load_120 (by decide) ?_
            refine lv_istore (lv' := [(4, .int (nI na)), (8, .int (-1)), (11, .int (nI ce)), (0, .ref aX), (1, .ref aY), (2, .int (nI b)), (3, .int (nI (30 * b))), (5, .int (nI na)), (6, .int (nI lo)), (7, .int (nI cn)), (9, .int (oI la)), (10, .int (nI i))]) hx hb dgX7_load_125 hl (by decide) rfl (fun ls hl => ?_)
            refine lv_goto (tgt := 243) hx hb dgX7_load_127 (by decide) ?_
            refine lv_iinc (v := nI (i + 1)) (lv' := [(10, .int (nI (i + 1))), (4, .int (nI na)), (8, .int (-1)), (11, .int (nI ce)), (0, .ref aX), (1, .ref aY), (2, .int (nI b)), (3, .int (nI (30 * b))), (5, .int (nI na)), (6, .int (nI lo)), (7, .int (nI cn)), (9, .int (oI la))]) hx hb dgX7_load_243 hl (k := 11) rfl (nI_1 i) (by decide) rfl (fun ls hl => ?_)
            refine lv_goto (tgt := 46) hx hb dgX7_load_246 (by decide) ?_
            refine ih (i + 1) S G Fo Fc (ci + 1) (co + 1) na na lo cn none la (by omega) (by omega) (Or.inl rfl) ?_ H locs ls hP hD hS (lv_sub hl [4, 5, 6, 7, 1, 8, 9, 10, 2, 11, 0] rfl)
            rw [← hrun, ld_zero, if_pos hlo]
          · refine lv_if_ne (tgt := 123) hx hb dgX7_load_115 (by decide) (fun _ => ?_) (fun c9 => absurd c9 (nI_ne0 hlo (by omega)))
            refine lv_iload hx hb dgX7_load_123 (lv_at hl 6 rfl) ?_
            refine lv_istore (lv' := [(4, .int (nI ba)), (8, .int (-1)), (11, .int (nI ce)), (0, .ref aX), (1, .ref aY), (2, .int (nI b)), (3, .int (nI (30 * b))), (5, .int (nI na)), (6, .int (nI lo)), (7, .int (nI cn)), (9, .int (oI la)), (10, .int (nI i))]) hx hb dgX7_load_125 hl (by decide) rfl (fun ls hl => ?_)
            refine lv_goto (tgt := 243) hx hb dgX7_load_127 (by decide) ?_
            refine lv_iinc (v := nI (i + 1)) (lv' := [(10, .int (nI (i + 1))), (4, .int (nI ba)), (8, .int (-1)), (11, .int (nI ce)), (0, .ref aX), (1, .ref aY), (2, .int (nI b)), (3, .int (nI (30 * b))), (5, .int (nI na)), (6, .int (nI lo)), (7, .int (nI cn)), (9, .int (oI la))]) hx hb dgX7_load_243 hl (k := 11) rfl (nI_1 i) (by decide) rfl (fun ls hl => ?_)
            refine lv_goto (tgt := 46) hx hb dgX7_load_246 (by decide) ?_
            refine ih (i + 1) S G Fo Fc (ci + 1) (co + 1) ba na lo cn none la (by omega) (by omega) (Or.inl rfl) ?_ H locs ls hP hD hS (lv_sub hl [4, 5, 6, 7, 1, 8, 9, 10, 2, 11, 0] rfl)
            rw [← hrun, ld_zero, if_neg (Nat.pos_iff_ne_zero.mp hlo)]
        · subst hfi hla
          have hl : lv_has ls 14 [(11, .int (nI ce)), (0, .ref aX), (1, .ref aY), (2, .int (nI b)), (3, .int (nI (30 * b))), (4, .int (nI ba)), (5, .int (nI na)), (6, .int (nI lo)), (7, .int (nI cn)), (8, .int (nI f)), (9, .int (nI l9)), (10, .int (nI i))] := hl
          refine lv_iload hx hb dgX7_load_73 (lv_at hl 9 rfl) ?_
          refine lv_iconst (v := (-1)) hx hb dgX7_load_75 (by decide) ?_
          refine lv_icmp_ne (tgt := 92) hx hb dgX7_load_76 (by decide) (fun _ => ?_) (fun c9 => absurd c9 (nI_nm1 (by omega)))
          refine lv_aload_n hx hb dgX7_load_92 rfl (lv_at hl 1 rfl) ?_
          refine lv_iload hx hb dgX7_load_93 (lv_at hl 10 rfl) ?_
          refine lv_iload hx hb dgX7_load_95 (lv_at hl 9 rfl) ?_
          have hPc := hP.sub (ws' := [(aX, .inr (10, [.ref (nx 0), .ref (nx 1), .ref (nx 2), .ref (nx 3), .ref (nx 4), .ref (nx 5), .ref (nx 6), .int (nI (K2 b)), .int (nI ci), .int (nI co), .int x10])), ((nx 0), .inl (cI, 24, .inl (ow_nI S.1))), ((nx 1), .inl (cI, 24, .inl (ow_nI S.2)))]) [0, 1, 2] rfl
          have hDc := hD.sub (ws' := [(aX, .inr (10, [.ref (nx 0), .ref (nx 1), .ref (nx 2), .ref (nx 3), .ref (nx 4), .ref (nx 5), .ref (nx 6), .int (nI (K2 b)), .int (nI ci), .int (nI co), .int x10])), ((nx 0), .inl (cI, 24, .inl (ow_nI S.1))), ((nx 1), .inl (cI, 24, .inl (ow_nI S.2)))]) [0, 1, 2] (by decide) rfl
          have hFc := va_free (wc := [(aX, .inr (10, [.ref (nx 0), .ref (nx 1), .ref (nx 2), .ref (nx 3), .ref (nx 4), .ref (nx 5), .ref (nx 6), .int (nI (K2 b)), .int (nI ci), .int (nI co), .int x10])), ((nx 0), .inl (cI, 24, .inl (ow_nI S.1))), ((nx 1), .inl (cI, 24, .inl (ow_nI S.2)))]) hD hS hA [0, 1, 2] rfl
          refine va_callv (va_runV (As := [.int (nI l9), .int (nI f)]) (rest := []) ⟨hx, hb, hml, hown, hts⟩ (kg_X7_link l dC dI cI cB cJ cZ aX nx (nI (K2 b)) (nI ci) (nI co) x10 S l9 f hl24 hf24 H.size) (cwV 2 hts gg_X7_load_0 rfl rfl rfl (by decide +kernel) ⟨(Nat.le_of_ble_eq_true rfl), (Nat.le_of_ble_eq_true rfl)⟩) ⟨fun a U g mk q => by obtain ⟨q0, q1, qP, qK, qD⟩ := q; exact ⟨q0, q1, qP, va_K.moved (u := U) (U := U.calling g mk a) (Vm.Alike.refl U.vm) qK, qD⟩, va_recv hK hPc (ci := 10) (q0 := 0) rfl rfl, fun U hU hW => ⟨rfl, by rw [hU], by rw [hU]; exact hPc, va_K.moved hW.alike hK, hDc.weaken (fun _ _ _ _ => trivial)⟩⟩ rfl rfl hl.1 rfl (lv_room (Nat.le_of_ble_eq_true rfl)) dgX7_load_97 ⟨(Nat.le_of_ble_eq_true rfl), (Nat.le_of_ble_eq_true rfl)⟩) hS (fun q _ h => hFc q h) hFc (fun u9 t H1 locs ht hvm hw hB hz1 hk1 hS => ?_)
          obtain ⟨hP1, hD1⟩ := hB
          rw [ht] at hP1
          obtain ⟨hP, hD⟩ := va_join (wr := [((nx 2), .inl (cI, 12, .inl G)), ((nx 3), .inl (cI, 24, .inl Fo)), ((nx 4), .inl (cI, 24, .inl Fc)), (aY, .inr (6, [.ref (fy 0), .ref (fy 1), .ref (fy 2), .ref (fy 3), .int zy])), ((fy 0), .inl (cB, (30 * k), .inl (ow_nI C2))), ((fy 1), .inl (cB, k, .inl (ow_nI L2))), ((fy 2), .inl (cB, k, .inl (ow_nI K2)))]) (w1 := [(aX, .inr (10, [.ref (nx 0), .ref (nx 1), .ref (nx 2), .ref (nx 3), .ref (nx 4), .ref (nx 5), .ref (nx 6), .int (nI (K2 b)), .int (nI ci), .int (nI co), .int x10])), ((nx 0), .inl (cI, 24, .inl (ow_nI (nl S l9 f).1))), ((nx 1), .inl (cI, 24, .inl (ow_nI (nl S l9 f).2)))]) hP hD [0, 1, 2] [3, 4, 5, 6, 7, 8, 9] rfl rfl (by decide) (by decide) hk1 hFc hP1 hD1
          generalize H1 = H at hP hS ⊢
          have hP : va_P (dC, dI) vwCl [((nx 2), .inl (cI, 12, .inl G)), ((nx 3), .inl (cI, 24, .inl Fo)), ((nx 4), .inl (cI, 24, .inl Fc)), (aY, .inr (6, [.ref (fy 0), .ref (fy 1), .ref (fy 2), .ref (fy 3), .int zy])), ((fy 0), .inl (cB, (30 * k), .inl (ow_nI C2))), ((fy 1), .inl (cB, k, .inl (ow_nI L2))), ((fy 2), .inl (cB, k, .inl (ow_nI K2))), (aX, .inr (10, [.ref (nx 0), .ref (nx 1), .ref (nx 2), .ref (nx 3), .ref (nx 4), .ref (nx 5), .ref (nx 6), .int (nI (K2 b)), .int (nI ci), .int (nI co), .int x10])), ((nx 0), .inl (cI, 24, .inl (ow_nI (nl S l9 f).1))), ((nx 1), .inl (cI, 24, .inl (ow_nI (nl S l9 f).2)))] H := hP
          have hD : va_D A [((nx 2), .inl (cI, 12, .inl G)), ((nx 3), .inl (cI, 24, .inl Fo)), ((nx 4), .inl (cI, 24, .inl Fc)), (aY, .inr (6, [.ref (fy 0), .ref (fy 1), .ref (fy 2), .ref (fy 3), .int zy])), ((fy 0), .inl (cB, (30 * k), .inl (ow_nI C2))), ((fy 1), .inl (cB, k, .inl (ow_nI L2))), ((fy 2), .inl (cB, k, .inl (ow_nI K2))), (aX, .inr (10, [.ref (nx 0), .ref (nx 1), .ref (nx 2), .ref (nx 3), .ref (nx 4), .ref (nx 5), .ref (nx 6), .int (nI (K2 b)), .int (nI ci), .int (nI co), .int x10])), ((nx 0), .inl (cI, 24, .inl (ow_nI (nl S l9 f).1))), ((nx 1), .inl (cI, 24, .inl (ow_nI (nl S l9 f).2)))] := hD
          have hP := hP.sub (ws' := [(aX, .inr (10, [.ref (nx 0), .ref (nx 1), .ref (nx 2), .ref (nx 3), .ref (nx 4), .ref (nx 5), .ref (nx 6), .int (nI (K2 b)), .int (nI ci), .int (nI co), .int x10])), ((nx 0), .inl (cI, 24, .inl (ow_nI (nl S l9 f).1))), ((nx 1), .inl (cI, 24, .inl (ow_nI (nl S l9 f).2))), ((nx 2), .inl (cI, 12, .inl G)), ((nx 3), .inl (cI, 24, .inl Fo)), ((nx 4), .inl (cI, 24, .inl Fc)), (aY, .inr (6, [.ref (fy 0), .ref (fy 1), .ref (fy 2), .ref (fy 3), .int zy])), ((fy 0), .inl (cB, (30 * k), .inl (ow_nI C2))), ((fy 1), .inl (cB, k, .inl (ow_nI L2))), ((fy 2), .inl (cB, k, .inl (ow_nI K2)))]) [7, 8, 9, 0, 1, 2, 3, 4, 5, 6] rfl
          have hD := hD.sub (ws' := [(aX, .inr (10, [.ref (nx 0), .ref (nx 1), .ref (nx 2), .ref (nx 3), .ref (nx 4), .ref (nx 5), .ref (nx 6), .int (nI (K2 b)), .int (nI ci), .int (nI co), .int x10])), ((nx 0), .inl (cI, 24, .inl (ow_nI (nl S l9 f).1))), ((nx 1), .inl (cI, 24, .inl (ow_nI (nl S l9 f).2))), ((nx 2), .inl (cI, 12, .inl G)), ((nx 3), .inl (cI, 24, .inl Fo)), ((nx 4), .inl (cI, 24, .inl Fc)), (aY, .inr (6, [.ref (fy 0), .ref (fy 1), .ref (fy 2), .ref (fy 3), .int zy])), ((fy 0), .inl (cB, (30 * k), .inl (ow_nI C2))), ((fy 1), .inl (cB, k, .inl (ow_nI L2))), ((fy 2), .inl (cB, k, .inl (ow_nI K2)))]) [7, 8, 9, 0, 1, 2, 3, 4, 5, 6] (by decide) rfl
          refine lv_aload_n hx hb dgX7_load_100 rfl (lv_at hl 1 rfl) ?_
          refine lv_dup hx hb dgX7_load_101 rfl ?_
          refine va_get (D := (dC, dI)) (ci := 10) (v := .int (nI co)) (C := RX7) (T := TX7) (N := 11) hx hb hts (fun _ h => List.mem_cons_of_mem _ (List.mem_append_left _ (List.mem_append_left _ (List.mem_append_right _ h)))) hown hK hP 0 rfl rfl 9 (by decide) (hts (.fieldLink RX7 45 "KnotHouse$Net" "components" "I") (by decide +kernel)) (fun _ h9 => h9) rfl dgX7_load_102 ?_
          refine lv_iconst (v := 1) hx hb dgX7_load_105 (by decide) ?_
          refine lv_iadd hx hb dgX7_load_106 ?_
          refine ow_topi (y := nI (co + 1)) (nI_1 co) ?_
          refine va_put (D := (dC, dI)) (ci := 10) (v := .int (nI (co + 1))) (ty := .int) (C := RX7) (T := TX7) (N := 11) hx hb hts (fun _ h => List.mem_cons_of_mem _ (List.mem_append_left _ (List.mem_append_left _ (List.mem_append_right _ h)))) tyX7 tyX7_ok nmX7 hown hK hP hD hS 0 rfl rfl 9 (by decide) (hts (.fieldLink RX7 45 "KnotHouse$Net" "components" "I") (by decide +kernel)) (fun _ h9 => h9) rfl (by decide +kernel) rfl rfl (Nat.le_of_ble_eq_true rfl) dgX7_load_107 (fun H locs hP hD hS => ?_)
          have hP : va_P (dC, dI) vwCl [(aX, .inr (10, [.ref (nx 0), .ref (nx 1), .ref (nx 2), .ref (nx 3), .ref (nx 4), .ref (nx 5), .ref (nx 6), .int (nI (K2 b)), .int (nI ci), .int (nI (co + 1)), .int x10])), ((nx 0), .inl (cI, 24, .inl (ow_nI (nl S l9 f).1))), ((nx 1), .inl (cI, 24, .inl (ow_nI (nl S l9 f).2))), ((nx 2), .inl (cI, 12, .inl G)), ((nx 3), .inl (cI, 24, .inl Fo)), ((nx 4), .inl (cI, 24, .inl Fc)), (aY, .inr (6, [.ref (fy 0), .ref (fy 1), .ref (fy 2), .ref (fy 3), .int zy])), ((fy 0), .inl (cB, (30 * k), .inl (ow_nI C2))), ((fy 1), .inl (cB, k, .inl (ow_nI L2))), ((fy 2), .inl (cB, k, .inl (ow_nI K2)))] H := hP
          have hD : va_D A [(aX, .inr (10, [.ref (nx 0), .ref (nx 1), .ref (nx 2), .ref (nx 3), .ref (nx 4), .ref (nx 5), .ref (nx 6), .int (nI (K2 b)), .int (nI ci), .int (nI (co + 1)), .int x10])), ((nx 0), .inl (cI, 24, .inl (ow_nI (nl S l9 f).1))), ((nx 1), .inl (cI, 24, .inl (ow_nI (nl S l9 f).2))), ((nx 2), .inl (cI, 12, .inl G)), ((nx 3), .inl (cI, 24, .inl Fo)), ((nx 4), .inl (cI, 24, .inl Fc)), (aY, .inr (6, [.ref (fy 0), .ref (fy 1), .ref (fy 2), .ref (fy 3), .int zy])), ((fy 0), .inl (cB, (30 * k), .inl (ow_nI C2))), ((fy 1), .inl (cB, k, .inl (ow_nI L2))), ((fy 2), .inl (cB, k, .inl (ow_nI K2)))] := hD
          refine lv_iconst (v := (-1)) hx hb dgX7_load_110 (by decide) ?_
          refine lv_istore (lv' := [(8, .int (-1)), (11, .int (nI ce)), (0, .ref aX), (1, .ref aY), (2, .int (nI b)), (3, .int (nI (30 * b))), (4, .int (nI ba)), (5, .int (nI na)), (6, .int (nI lo)), (7, .int (nI cn)), (9, .int (nI l9)), (10, .int (nI i))]) hx hb dgX7_load_111 hl (by decide) rfl (fun ls hl => ?_)
          refine lv_iload hx hb dgX7_load_113 (lv_at hl 8 rfl) ?_
          rcases Nat.eq_zero_or_pos lo with hlo | hlo
          · refine lv_if_ne (tgt := 123) hx hb dgX7_load_115 (by decide) (fun c9 => absurd c9 (not_not_intro (congrArg nI hlo))) (fun _ => ?_)
            refine lv_iload hx hb dgX7_load_118 (lv_at hl 7 rfl) ?_
            refine lv_goto (tgt := 125) hx hb dgX7_load_120 (by decide) ?_
            refine lv_istore (lv' := [(4, .int (nI na)), (8, .int (-1)), (11, .int (nI ce)), (0, .ref aX), (1, .ref aY), (2, .int (nI b)), (3, .int (nI (30 * b))), (5, .int (nI na)), (6, .int (nI lo)), (7, .int (nI cn)), (9, .int (nI l9)), (10, .int (nI i))]) hx hb dgX7_load_125 hl (by decide) rfl (fun ls hl => ?_)
            refine lv_goto (tgt := 243) hx hb dgX7_load_127 (by decide) ?_
            refine lv_iinc (v := nI (i + 1)) (lv' := [(10, .int (nI (i + 1))), (4, .int (nI na)), (8, .int (-1)), (11, .int (nI ce)), (0, .ref aX), (1, .ref aY), (2, .int (nI b)), (3, .int (nI (30 * b))), (5, .int (nI na)), (6, .int (nI lo)), (7, .int (nI cn)), (9, .int (nI l9))]) hx hb dgX7_load_243 hl (k := 11) rfl (nI_1 i) (by decide) rfl (fun ls hl => ?_)
            refine lv_goto (tgt := 46) hx hb dgX7_load_246 (by decide) ?_
            refine ih (i + 1) (nl S l9 f) G Fo Fc ci (co + 1) na na lo cn none (some l9) (by omega) (by omega) (Or.inl rfl) ?_ H locs ls hP hD hS (lv_sub hl [4, 5, 6, 7, 1, 8, 9, 10, 2, 11, 0] rfl)
            rw [← hrun, ld_zero, if_pos hlo]
            rfl
          · refine lv_if_ne (tgt := 123) hx hb dgX7_load_115 (by decide) (fun _ => ?_) (fun c9 => absurd c9 (nI_ne0 hlo (by omega)))
            refine lv_iload hx hb dgX7_load_123 (lv_at hl 6 rfl) ?_
            refine lv_istore (lv' := [(4, .int (nI ba)), (8, .int (-1)), (11, .int (nI ce)), (0, .ref aX), (1, .ref aY), (2, .int (nI b)), (3, .int (nI (30 * b))), (5, .int (nI na)), (6, .int (nI lo)), (7, .int (nI cn)), (9, .int (nI l9)), (10, .int (nI i))]) hx hb dgX7_load_125 hl (by decide) rfl (fun ls hl => ?_)
            refine lv_goto (tgt := 243) hx hb dgX7_load_127 (by decide) ?_
            refine lv_iinc (v := nI (i + 1)) (lv' := [(10, .int (nI (i + 1))), (4, .int (nI ba)), (8, .int (-1)), (11, .int (nI ce)), (0, .ref aX), (1, .ref aY), (2, .int (nI b)), (3, .int (nI (30 * b))), (5, .int (nI na)), (6, .int (nI lo)), (7, .int (nI cn)), (9, .int (nI l9))]) hx hb dgX7_load_243 hl (k := 11) rfl (nI_1 i) (by decide) rfl (fun ls hl => ?_)
            refine lv_goto (tgt := 46) hx hb dgX7_load_246 (by decide) ?_
            refine ih (i + 1) (nl S l9 f) G Fo Fc ci (co + 1) ba na lo cn none (some l9) (by omega) (by omega) (Or.inl rfl) ?_ H locs ls hP hD hS (lv_sub hl [4, 5, 6, 7, 1, 8, 9, 10, 2, 11, 0] rfl)
            rw [← hrun, ld_zero, if_neg (Nat.pos_iff_ne_zero.mp hlo)]
            rfl
  refine lv_aload_n hx hb dgX7_load_0 rfl (lv_at hl 0 rfl) ?_
  refine lv_aload_n hx hb dgX7_load_1 rfl (lv_at hl 1 rfl) ?_
  refine va_get (D := (dC, dI)) (ci := 6) (v := .ref (fy 2)) (C := RX3) (T := TX3) (N := 5) hx hb hts (fun _ h => List.mem_cons_of_mem _ (List.mem_append_left _ (List.mem_append_right _ h))) hown hK hP 6 rfl rfl 2 (by decide) (hts (.fieldLink RX7 33 "KnotHouse$Codes" "crossings" "[B") (by decide +kernel)) (fun _ h9 => h9) rfl dgX7_load_2 ?_
  refine lv_iload_n hx hb dgX7_load_5 rfl (lv_at hl 2 rfl) ?_
  refine va_bald hx hb hK hP 9 1 rfl rfl (vp_in_nI (n := b) (N := k) hbk (by omega)) dgX7_load_6 ?_
  refine ow_topi (y := nI (K2 b)) (ow_nI_at K2 (Nat.lt_trans (m := k) hbk (by omega))) ?_
  refine va_put (D := (dC, dI)) (ci := 10) (v := .int (nI (K2 b))) (ty := .int) (C := RX7) (T := TX7) (N := 11) hx hb hts (fun _ h => List.mem_cons_of_mem _ (List.mem_append_left _ (List.mem_append_left _ (List.mem_append_right _ h)))) tyX7 tyX7_ok nmX7 hown hK hP hD hS 0 rfl rfl 7 (by decide) (hts (.fieldLink RX7 39 "KnotHouse$Net" "crossings" "I") (by decide +kernel)) (fun _ h9 => h9) rfl (by decide +kernel) rfl rfl (Nat.le_of_ble_eq_true rfl) dgX7_load_7 (fun H locs hP hD hS => ?_)
  have hP : va_P (dC, dI) vwCl [(aX, .inr (10, [.ref (nx 0), .ref (nx 1), .ref (nx 2), .ref (nx 3), .ref (nx 4), .ref (nx 5), .ref (nx 6), .int (nI (K2 b)), .int x8, .int x9, .int x10])), ((nx 0), .inl (cI, 24, .inl (ow_nI S.1))), ((nx 1), .inl (cI, 24, .inl (ow_nI S.2))), ((nx 2), .inl (cI, 12, .inl G)), ((nx 3), .inl (cI, 24, .inl Fo)), ((nx 4), .inl (cI, 24, .inl Fc)), (aY, .inr (6, [.ref (fy 0), .ref (fy 1), .ref (fy 2), .ref (fy 3), .int zy])), ((fy 0), .inl (cB, (30 * k), .inl (ow_nI C2))), ((fy 1), .inl (cB, k, .inl (ow_nI L2))), ((fy 2), .inl (cB, k, .inl (ow_nI K2)))] H := hP
  have hD : va_D A [(aX, .inr (10, [.ref (nx 0), .ref (nx 1), .ref (nx 2), .ref (nx 3), .ref (nx 4), .ref (nx 5), .ref (nx 6), .int (nI (K2 b)), .int x8, .int x9, .int x10])), ((nx 0), .inl (cI, 24, .inl (ow_nI S.1))), ((nx 1), .inl (cI, 24, .inl (ow_nI S.2))), ((nx 2), .inl (cI, 12, .inl G)), ((nx 3), .inl (cI, 24, .inl Fo)), ((nx 4), .inl (cI, 24, .inl Fc)), (aY, .inr (6, [.ref (fy 0), .ref (fy 1), .ref (fy 2), .ref (fy 3), .int zy])), ((fy 0), .inl (cB, (30 * k), .inl (ow_nI C2))), ((fy 1), .inl (cB, k, .inl (ow_nI L2))), ((fy 2), .inl (cB, k, .inl (ow_nI K2)))] := hD
  refine lv_aload_n hx hb dgX7_load_10 rfl (lv_at hl 0 rfl) ?_
  refine lv_iconst (v := 0) hx hb dgX7_load_11 (by decide) ?_
  refine ow_topi (y := nI 0) (by decide) ?_
  refine va_put (D := (dC, dI)) (ci := 10) (v := .int (nI 0)) (ty := .int) (C := RX7) (T := TX7) (N := 11) hx hb hts (fun _ h => List.mem_cons_of_mem _ (List.mem_append_left _ (List.mem_append_left _ (List.mem_append_right _ h)))) tyX7 tyX7_ok nmX7 hown hK hP hD hS 0 rfl rfl 8 (by decide) (hts (.fieldLink RX7 42 "KnotHouse$Net" "circles" "I") (by decide +kernel)) (fun _ h9 => h9) rfl (by decide +kernel) rfl rfl (Nat.le_of_ble_eq_true rfl) dgX7_load_12 (fun H locs hP hD hS => ?_)
  have hP : va_P (dC, dI) vwCl [(aX, .inr (10, [.ref (nx 0), .ref (nx 1), .ref (nx 2), .ref (nx 3), .ref (nx 4), .ref (nx 5), .ref (nx 6), .int (nI (K2 b)), .int (nI 0), .int x9, .int x10])), ((nx 0), .inl (cI, 24, .inl (ow_nI S.1))), ((nx 1), .inl (cI, 24, .inl (ow_nI S.2))), ((nx 2), .inl (cI, 12, .inl G)), ((nx 3), .inl (cI, 24, .inl Fo)), ((nx 4), .inl (cI, 24, .inl Fc)), (aY, .inr (6, [.ref (fy 0), .ref (fy 1), .ref (fy 2), .ref (fy 3), .int zy])), ((fy 0), .inl (cB, (30 * k), .inl (ow_nI C2))), ((fy 1), .inl (cB, k, .inl (ow_nI L2))), ((fy 2), .inl (cB, k, .inl (ow_nI K2)))] H := hP
  have hD : va_D A [(aX, .inr (10, [.ref (nx 0), .ref (nx 1), .ref (nx 2), .ref (nx 3), .ref (nx 4), .ref (nx 5), .ref (nx 6), .int (nI (K2 b)), .int (nI 0), .int x9, .int x10])), ((nx 0), .inl (cI, 24, .inl (ow_nI S.1))), ((nx 1), .inl (cI, 24, .inl (ow_nI S.2))), ((nx 2), .inl (cI, 12, .inl G)), ((nx 3), .inl (cI, 24, .inl Fo)), ((nx 4), .inl (cI, 24, .inl Fc)), (aY, .inr (6, [.ref (fy 0), .ref (fy 1), .ref (fy 2), .ref (fy 3), .int zy])), ((fy 0), .inl (cB, (30 * k), .inl (ow_nI C2))), ((fy 1), .inl (cB, k, .inl (ow_nI L2))), ((fy 2), .inl (cB, k, .inl (ow_nI K2)))] := hD
  refine lv_aload_n hx hb dgX7_load_15 rfl (lv_at hl 0 rfl) ?_
  refine lv_iconst (v := 0) hx hb dgX7_load_16 (by decide) ?_
  refine ow_topi (y := nI 0) (by decide) ?_
  refine va_put (D := (dC, dI)) (ci := 10) (v := .int (nI 0)) (ty := .int) (C := RX7) (T := TX7) (N := 11) hx hb hts (fun _ h => List.mem_cons_of_mem _ (List.mem_append_left _ (List.mem_append_left _ (List.mem_append_right _ h)))) tyX7 tyX7_ok nmX7 hown hK hP hD hS 0 rfl rfl 9 (by decide) (hts (.fieldLink RX7 45 "KnotHouse$Net" "components" "I") (by decide +kernel)) (fun _ h9 => h9) rfl (by decide +kernel) rfl rfl (Nat.le_of_ble_eq_true rfl) dgX7_load_17 (fun H locs hP hD hS => ?_)
  have hP : va_P (dC, dI) vwCl [(aX, .inr (10, [.ref (nx 0), .ref (nx 1), .ref (nx 2), .ref (nx 3), .ref (nx 4), .ref (nx 5), .ref (nx 6), .int (nI (K2 b)), .int (nI 0), .int (nI 0), .int x10])), ((nx 0), .inl (cI, 24, .inl (ow_nI S.1))), ((nx 1), .inl (cI, 24, .inl (ow_nI S.2))), ((nx 2), .inl (cI, 12, .inl G)), ((nx 3), .inl (cI, 24, .inl Fo)), ((nx 4), .inl (cI, 24, .inl Fc)), (aY, .inr (6, [.ref (fy 0), .ref (fy 1), .ref (fy 2), .ref (fy 3), .int zy])), ((fy 0), .inl (cB, (30 * k), .inl (ow_nI C2))), ((fy 1), .inl (cB, k, .inl (ow_nI L2))), ((fy 2), .inl (cB, k, .inl (ow_nI K2)))] H := hP
  have hD : va_D A [(aX, .inr (10, [.ref (nx 0), .ref (nx 1), .ref (nx 2), .ref (nx 3), .ref (nx 4), .ref (nx 5), .ref (nx 6), .int (nI (K2 b)), .int (nI 0), .int (nI 0), .int x10])), ((nx 0), .inl (cI, 24, .inl (ow_nI S.1))), ((nx 1), .inl (cI, 24, .inl (ow_nI S.2))), ((nx 2), .inl (cI, 12, .inl G)), ((nx 3), .inl (cI, 24, .inl Fo)), ((nx 4), .inl (cI, 24, .inl Fc)), (aY, .inr (6, [.ref (fy 0), .ref (fy 1), .ref (fy 2), .ref (fy 3), .int zy])), ((fy 0), .inl (cB, (30 * k), .inl (ow_nI C2))), ((fy 1), .inl (cB, k, .inl (ow_nI L2))), ((fy 2), .inl (cB, k, .inl (ow_nI K2)))] := hD
  refine lv_iload_n hx hb dgX7_load_20 rfl (lv_at hl 2 rfl) ?_
  refine lv_bipush (v := 30) hx hb dgX7_load_21 (by decide) ?_
  refine lv_imul hx hb dgX7_load_23 ?_
  refine ow_topi (y := nI (30 * b)) (by rw [Nat.mul_comm]; exact pk_mul b 30) ?_
  refine lv_istore_n (lv' := [(3, .int (nI (30 * b))), (0, .ref aX), (1, .ref aY), (2, .int (nI b))]) hx hb dgX7_load_24 rfl hl (by decide) rfl (fun ls hl => ?_)
  refine lv_iconst (v := 0) hx hb dgX7_load_25 (by decide) ?_
  refine ow_topi (y := nI 0) (by decide) ?_
  refine lv_istore (lv' := [(4, .int (nI 0)), (3, .int (nI (30 * b))), (0, .ref aX), (1, .ref aY), (2, .int (nI b))]) hx hb dgX7_load_26 hl (by decide) rfl (fun ls hl => ?_)
  refine lv_iconst (v := 0) hx hb dgX7_load_28 (by decide) ?_
  refine ow_topi (y := nI 0) (by decide) ?_
  refine lv_istore (lv' := [(5, .int (nI 0)), (4, .int (nI 0)), (3, .int (nI (30 * b))), (0, .ref aX), (1, .ref aY), (2, .int (nI b))]) hx hb dgX7_load_29 hl (by decide) rfl (fun ls hl => ?_)
  refine lv_iconst (v := 0) hx hb dgX7_load_31 (by decide) ?_
  refine ow_topi (y := nI 0) (by decide) ?_
  refine lv_istore (lv' := [(6, .int (nI 0)), (5, .int (nI 0)), (4, .int (nI 0)), (3, .int (nI (30 * b))), (0, .ref aX), (1, .ref aY), (2, .int (nI b))]) hx hb dgX7_load_32 hl (by decide) rfl (fun ls hl => ?_)
  refine lv_iconst (v := 0) hx hb dgX7_load_34 (by decide) ?_
  refine ow_topi (y := nI 0) (by decide) ?_
  refine lv_istore (lv' := [(7, .int (nI 0)), (6, .int (nI 0)), (5, .int (nI 0)), (4, .int (nI 0)), (3, .int (nI (30 * b))), (0, .ref aX), (1, .ref aY), (2, .int (nI b))]) hx hb dgX7_load_35 hl (by decide) rfl (fun ls hl => ?_)
  refine lv_iconst (v := (-1)) hx hb dgX7_load_37 (by decide) ?_
  refine lv_istore (lv' := [(8, .int (-1)), (7, .int (nI 0)), (6, .int (nI 0)), (5, .int (nI 0)), (4, .int (nI 0)), (3, .int (nI (30 * b))), (0, .ref aX), (1, .ref aY), (2, .int (nI b))]) hx hb dgX7_load_38 hl (by decide) rfl (fun ls hl => ?_)
  refine lv_iconst (v := (-1)) hx hb dgX7_load_40 (by decide) ?_
  refine lv_istore (lv' := [(9, .int (-1)), (8, .int (-1)), (7, .int (nI 0)), (6, .int (nI 0)), (5, .int (nI 0)), (4, .int (nI 0)), (3, .int (nI (30 * b))), (0, .ref aX), (1, .ref aY), (2, .int (nI b))]) hx hb dgX7_load_41 hl (by decide) rfl (fun ls hl => ?_)
  refine lv_iconst (v := 0) hx hb dgX7_load_43 (by decide) ?_
  refine ow_topi (y := nI 0) (by decide) ?_
  refine lv_istore (lv' := [(10, .int (nI 0)), (9, .int (-1)), (8, .int (-1)), (7, .int (nI 0)), (6, .int (nI 0)), (5, .int (nI 0)), (4, .int (nI 0)), (3, .int (nI (30 * b))), (0, .ref aX), (1, .ref aY), (2, .int (nI b))]) hx hb dgX7_load_44 hl (by decide) rfl (fun ls hl => ?_)
  exact L46 (L2 b) 0 S G Fo Fc 0 0 0 0 0 0 none none (by omega) (by omega) (Or.inl rfl) hR H locs ls hP hD hS (lv_sub hl [8, 9, 10, 7, 6, 5, 4, 3, 2, 1, 0] rfl)
