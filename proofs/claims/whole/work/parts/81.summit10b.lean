/-! the set gathered: work, set, those that stayed, how many -/
abbrev ow_GA := ow_FO × ow_SM × (Nat → Int32) × Nat
abbrev ow_GC := Nat × Int32 × Int32 × Int32 × Nat × (Nat → Int32) × (Nat → Int32) × Nat
def sm_wk (G9 : ow_GC) (i : Nat) (g : ow_GA) : ow_FO := (G9.2.2.2.1, G9.2.2.2.2.1, va_cpy g.2.1.2.1 g.1.2.2 (20 * i) 0 G9.2.2.2.2.1)
def sm_cj (G9 : ow_GC) (i k : Nat) (g : ow_GA) : ow_FO := f5_co G9.1 G9.2.1 G9.2.2.1 (sm_wk G9 i g) (G9.2.2.2.2.2.1 k)
def sm_in (G9 : ow_GC) (i : Nat) : Nat → Nat → ow_GA → Bool × ow_GA
  | 0, _, g => (true, g)
  | d + 1, k, g => if 200 < g.2.1.1 then (true, g) else if sm_go g.2.2.1 (G9.2.2.2.2.2.2.1 k) g.2.2.2 0 then sm_in G9 i d (k + 1) g else if G9.2.2.2.1 < (sm_cj G9 i k g).1 ∨ ((sm_cj G9 i k g).1 = G9.2.2.2.1 ∧ (sm_cj G9 i k g).2.1 < G9.2.2.2.2.1) then (false, (sm_cj G9 i k g, g.2)) else if (sm_cj G9 i k g).1 = G9.2.2.2.1 ∧ (sm_cj G9 i k g).2.1 = G9.2.2.2.2.1 then sm_in G9 i d (k + 1) (sm_cj G9 i k g, sm_add g.2.1 (sm_cj G9 i k g).2.2 G9.2.2.2.2.1, su g.2.2.1 g.2.2.2 (G9.2.2.2.2.2.2.1 k), g.2.2.2 + 1) else sm_in G9 i d (k + 1) (sm_cj G9 i k g, g.2)
abbrev ow_GS := ow_FO × ow_SM × (Nat → Int32)
def sm_ou (G9 : ow_GC) : Nat → Nat → ow_GS → Bool × ow_GS
  | 0, _, g => (true, g)
  | d + 1, i, g => if i < g.2.1.1 ∧ g.2.1.1 ≤ 200 then (if (sm_in G9 i G9.2.2.2.2.2.2.2 0 (g.1, g.2.1, g.2.2, 0)).1 then sm_ou G9 d (i + 1) ((sm_in G9 i G9.2.2.2.2.2.2.2 0 (g.1, g.2.1, g.2.2, 0)).2.1, (sm_in G9 i G9.2.2.2.2.2.2.2 0 (g.1, g.2.1, g.2.2, 0)).2.2.1, (sm_in G9 i G9.2.2.2.2.2.2.2 0 (g.1, g.2.1, g.2.2, 0)).2.2.2.1) else (false, ((sm_in G9 i G9.2.2.2.2.2.2.2 0 (g.1, g.2.1, g.2.2, 0)).2.1, (sm_in G9 i G9.2.2.2.2.2.2.2 0 (g.1, g.2.1, g.2.2, 0)).2.2.1, (sm_in G9 i G9.2.2.2.2.2.2.2 0 (g.1, g.2.1, g.2.2, 0)).2.2.2.1))) else (true, g)
/-- what stays true of the state -/
def ga_ok (ln : Nat) (q : ow_FO) (M : ow_SM) : Prop := q.2.1 ≤ 24 ∧ sm_ok M ln
theorem sm_cj_le {G9 : ow_GC} {i k : Nat} {g : ow_GA} (h : G9.2.2.2.2.1 ≤ 24) : (sm_cj G9 i k g).2.1 ≤ 24 := f5_co_le h
theorem sm_in_ok {G9 : ow_GC} {i : Nat} : ∀ (d k : Nat) (g : ow_GA), ga_ok G9.2.2.2.2.1 g.1 g.2.1 → ga_ok G9.2.2.2.2.1 (sm_in G9 i d k g).2.1 (sm_in G9 i d k g).2.2.1 := by
  intro d
  induction d with
  | zero => intro k g h; exact h
  | succ d ih =>
    intro k g h
    have hl := h.2.2.2.2
    rw [sm_in]
    split
    · exact h
    · split
      · exact ih _ _ h
      · split
        · exact ⟨sm_cj_le hl, h.2⟩
        · split
          · exact ih _ _ ⟨sm_cj_le hl, sm_add_ok h.2⟩
          · exact ih _ _ ⟨sm_cj_le hl, h.2⟩
theorem sm_ou_ok {G9 : ow_GC} : ∀ (d i : Nat) (g : ow_GS), ga_ok G9.2.2.2.2.1 g.1 g.2.1 → ga_ok G9.2.2.2.2.1 (sm_ou G9 d i g).2.1 (sm_ou G9 d i g).2.2.1 := by
  intro d
  induction d with
  | zero => intro i g h; exact h
  | succ d ih =>
    intro i g h
    rw [sm_ou]
    split
    · split
      · exact ih _ _ (sm_in_ok _ _ _ h)
      · exact sm_in_ok _ _ (g.1, g.2.1, g.2.2, 0) h
    · exact h
theorem dgX10_gather_0 : decode cX10_gather 0 = .ok (.iconst 0, 1) := by decide +kernel
theorem dgX10_gather_1 : decode cX10_gather 1 = .ok (.istore_n 1, 1) := by decide +kernel
theorem dgX10_gather_2 : decode cX10_gather 2 = .ok (.iload_n 1, 1) := by decide +kernel
theorem dgX10_gather_3 : decode cX10_gather 3 = .ok (.aload_n 0, 1) := by decide +kernel
theorem dgX10_gather_4 : decode cX10_gather 4 = .ok (.getfield 56, 3) := by decide +kernel
theorem dgX10_gather_7 : decode cX10_gather 7 = .ok (.if_icmp .ge 208, 3) := by decide +kernel
theorem dgX10_gather_10 : decode cX10_gather 10 = .ok (.aload_n 0, 1) := by decide +kernel
theorem dgX10_gather_11 : decode cX10_gather 11 = .ok (.getfield 56, 3) := by decide +kernel
theorem dgX10_gather_14 : decode cX10_gather 14 = .ok (.sipush 200, 3) := by decide +kernel
theorem dgX10_gather_17 : decode cX10_gather 17 = .ok (.if_icmp .gt 198, 3) := by decide +kernel
theorem dgX10_gather_20 : decode cX10_gather 20 = .ok (.iconst 0, 1) := by decide +kernel
theorem dgX10_gather_21 : decode cX10_gather 21 = .ok (.istore_n 2, 1) := by decide +kernel
theorem dgX10_gather_22 : decode cX10_gather 22 = .ok (.iconst 0, 1) := by decide +kernel
theorem dgX10_gather_23 : decode cX10_gather 23 = .ok (.istore_n 3, 1) := by decide +kernel
theorem dgX10_gather_24 : decode cX10_gather 24 = .ok (.iload_n 3, 1) := by decide +kernel
theorem dgX10_gather_25 : decode cX10_gather 25 = .ok (.aload_n 0, 1) := by decide +kernel
theorem dgX10_gather_26 : decode cX10_gather 26 = .ok (.getfield 59, 3) := by decide +kernel
theorem dgX10_gather_29 : decode cX10_gather 29 = .ok (.if_icmp .ge 180, 3) := by decide +kernel
theorem dgX10_gather_32 : decode cX10_gather 32 = .ok (.aload_n 0, 1) := by decide +kernel
theorem dgX10_gather_33 : decode cX10_gather 33 = .ok (.getfield 56, 3) := by decide +kernel
theorem dgX10_gather_36 : decode cX10_gather 36 = .ok (.sipush 200, 3) := by decide +kernel
theorem dgX10_gather_39 : decode cX10_gather 39 = .ok (.if_icmp .gt 170, 3) := by decide +kernel
theorem dgX10_gather_42 : decode cX10_gather 42 = .ok (.aload_n 0, 1) := by decide +kernel
theorem dgX10_gather_43 : decode cX10_gather 43 = .ok (.iload_n 3, 1) := by decide +kernel
theorem dgX10_gather_44 : decode cX10_gather 44 = .ok (.iload_n 2, 1) := by decide +kernel
theorem dgX10_gather_45 : decode cX10_gather 45 = .ok (.invokevirtual 92, 3) := by decide +kernel
theorem dgX10_gather_48 : decode cX10_gather 48 = .ok (.ifCond .eq 6, 3) := by decide +kernel
theorem dgX10_gather_51 : decode cX10_gather 51 = .ok (.goto 152, 3) := by decide +kernel
theorem dgX10_gather_54 : decode cX10_gather 54 = .ok (.aload_n 0, 1) := by decide +kernel
theorem dgX10_gather_55 : decode cX10_gather 55 = .ok (.getfield 21, 3) := by decide +kernel
theorem dgX10_gather_58 : decode cX10_gather 58 = .ok (.aload_n 0, 1) := by decide +kernel
theorem dgX10_gather_59 : decode cX10_gather 59 = .ok (.getfield 87, 3) := by decide +kernel
theorem dgX10_gather_62 : decode cX10_gather 62 = .ok (.putfield 75, 3) := by decide +kernel
theorem dgX10_gather_65 : decode cX10_gather 65 = .ok (.aload_n 0, 1) := by decide +kernel
theorem dgX10_gather_66 : decode cX10_gather 66 = .ok (.getfield 21, 3) := by decide +kernel
theorem dgX10_gather_69 : decode cX10_gather 69 = .ok (.aload_n 0, 1) := by decide +kernel
theorem dgX10_gather_70 : decode cX10_gather 70 = .ok (.getfield 88, 3) := by decide +kernel
theorem dgX10_gather_73 : decode cX10_gather 73 = .ok (.putfield 81, 3) := by decide +kernel
theorem dgX10_gather_76 : decode cX10_gather 76 = .ok (.aload_n 0, 1) := by decide +kernel
theorem dgX10_gather_77 : decode cX10_gather 77 = .ok (.getfield 11, 3) := by decide +kernel
theorem dgX10_gather_80 : decode cX10_gather 80 = .ok (.iload_n 1, 1) := by decide +kernel
theorem dgX10_gather_81 : decode cX10_gather 81 = .ok (.bipush 20, 2) := by decide +kernel
theorem dgX10_gather_83 : decode cX10_gather 83 = .ok (.imul, 1) := by decide +kernel
theorem dgX10_gather_84 : decode cX10_gather 84 = .ok (.aload_n 0, 1) := by decide +kernel
theorem dgX10_gather_85 : decode cX10_gather 85 = .ok (.getfield 21, 3) := by decide +kernel
theorem dgX10_gather_88 : decode cX10_gather 88 = .ok (.getfield 96, 3) := by decide +kernel
theorem dgX10_gather_91 : decode cX10_gather 91 = .ok (.iconst 0, 1) := by decide +kernel
theorem dgX10_gather_92 : decode cX10_gather 92 = .ok (.aload_n 0, 1) := by decide +kernel
theorem dgX10_gather_93 : decode cX10_gather 93 = .ok (.getfield 88, 3) := by decide +kernel
theorem dgX10_gather_96 : decode cX10_gather 96 = .ok (.invokestatic 99, 3) := by decide +kernel
theorem dgX10_gather_99 : decode cX10_gather 99 = .ok (.aload_n 0, 1) := by decide +kernel
theorem dgX10_gather_100 : decode cX10_gather 100 = .ok (.getfield 21, 3) := by decide +kernel
theorem dgX10_gather_103 : decode cX10_gather 103 = .ok (.aload_n 0, 1) := by decide +kernel
theorem dgX10_gather_104 : decode cX10_gather 104 = .ok (.getfield 25, 3) := by decide +kernel
theorem dgX10_gather_107 : decode cX10_gather 107 = .ok (.iload_n 3, 1) := by decide +kernel
theorem dgX10_gather_108 : decode cX10_gather 108 = .ok (.iaload, 1) := by decide +kernel
theorem dgX10_gather_109 : decode cX10_gather 109 = .ok (.invokevirtual 105, 3) := by decide +kernel
theorem dgX10_gather_112 : decode cX10_gather 112 = .ok (.aload_n 0, 1) := by decide +kernel
theorem dgX10_gather_113 : decode cX10_gather 113 = .ok (.getfield 21, 3) := by decide +kernel
theorem dgX10_gather_116 : decode cX10_gather 116 = .ok (.getfield 75, 3) := by decide +kernel
theorem dgX10_gather_119 : decode cX10_gather 119 = .ok (.aload_n 0, 1) := by decide +kernel
theorem dgX10_gather_120 : decode cX10_gather 120 = .ok (.getfield 87, 3) := by decide +kernel
theorem dgX10_gather_123 : decode cX10_gather 123 = .ok (.if_icmp .gt 31, 3) := by decide +kernel
theorem dgX10_gather_126 : decode cX10_gather 126 = .ok (.aload_n 0, 1) := by decide +kernel
theorem dgX10_gather_127 : decode cX10_gather 127 = .ok (.getfield 21, 3) := by decide +kernel
theorem dgX10_gather_130 : decode cX10_gather 130 = .ok (.getfield 75, 3) := by decide +kernel
theorem dgX10_gather_133 : decode cX10_gather 133 = .ok (.aload_n 0, 1) := by decide +kernel
theorem dgX10_gather_134 : decode cX10_gather 134 = .ok (.getfield 87, 3) := by decide +kernel
theorem dgX10_gather_137 : decode cX10_gather 137 = .ok (.if_icmp .ne 19, 3) := by decide +kernel
theorem dgX10_gather_140 : decode cX10_gather 140 = .ok (.aload_n 0, 1) := by decide +kernel
theorem dgX10_gather_141 : decode cX10_gather 141 = .ok (.getfield 21, 3) := by decide +kernel
theorem dgX10_gather_144 : decode cX10_gather 144 = .ok (.getfield 81, 3) := by decide +kernel
theorem dgX10_gather_147 : decode cX10_gather 147 = .ok (.aload_n 0, 1) := by decide +kernel
theorem dgX10_gather_148 : decode cX10_gather 148 = .ok (.getfield 88, 3) := by decide +kernel
theorem dgX10_gather_151 : decode cX10_gather 151 = .ok (.if_icmp .ge 5, 3) := by decide +kernel
theorem dgX10_gather_154 : decode cX10_gather 154 = .ok (.iconst 0, 1) := by decide +kernel
theorem dgX10_gather_155 : decode cX10_gather 155 = .ok (.ireturn, 1) := by decide +kernel
theorem dgX10_gather_156 : decode cX10_gather 156 = .ok (.aload_n 0, 1) := by decide +kernel
theorem dgX10_gather_157 : decode cX10_gather 157 = .ok (.getfield 21, 3) := by decide +kernel
theorem dgX10_gather_160 : decode cX10_gather 160 = .ok (.getfield 75, 3) := by decide +kernel
theorem dgX10_gather_163 : decode cX10_gather 163 = .ok (.aload_n 0, 1) := by decide +kernel
theorem dgX10_gather_164 : decode cX10_gather 164 = .ok (.getfield 87, 3) := by decide +kernel
theorem dgX10_gather_167 : decode cX10_gather 167 = .ok (.if_icmp .ne 36, 3) := by decide +kernel
theorem dgX10_gather_170 : decode cX10_gather 170 = .ok (.aload_n 0, 1) := by decide +kernel
theorem dgX10_gather_171 : decode cX10_gather 171 = .ok (.getfield 21, 3) := by decide +kernel
theorem dgX10_gather_174 : decode cX10_gather 174 = .ok (.getfield 81, 3) := by decide +kernel
theorem dgX10_gather_177 : decode cX10_gather 177 = .ok (.aload_n 0, 1) := by decide +kernel
theorem dgX10_gather_178 : decode cX10_gather 178 = .ok (.getfield 88, 3) := by decide +kernel
theorem dgX10_gather_181 : decode cX10_gather 181 = .ok (.if_icmp .ne 22, 3) := by decide +kernel
theorem dgX10_gather_184 : decode cX10_gather 184 = .ok (.aload_n 0, 1) := by decide +kernel
theorem dgX10_gather_185 : decode cX10_gather 185 = .ok (.invokevirtual 89, 3) := by decide +kernel
theorem dgX10_gather_188 : decode cX10_gather 188 = .ok (.aload_n 0, 1) := by decide +kernel
theorem dgX10_gather_189 : decode cX10_gather 189 = .ok (.getfield 31, 3) := by decide +kernel
theorem dgX10_gather_192 : decode cX10_gather 192 = .ok (.iload_n 2, 1) := by decide +kernel
theorem dgX10_gather_193 : decode cX10_gather 193 = .ok (.aload_n 0, 1) := by decide +kernel
theorem dgX10_gather_194 : decode cX10_gather 194 = .ok (.getfield 28, 3) := by decide +kernel
theorem dgX10_gather_197 : decode cX10_gather 197 = .ok (.iload_n 3, 1) := by decide +kernel
theorem dgX10_gather_198 : decode cX10_gather 198 = .ok (.iaload, 1) := by decide +kernel
theorem dgX10_gather_199 : decode cX10_gather 199 = .ok (.iastore, 1) := by decide +kernel
theorem dgX10_gather_200 : decode cX10_gather 200 = .ok (.iinc 2 1, 3) := by decide +kernel
theorem dgX10_gather_203 : decode cX10_gather 203 = .ok (.iinc 3 1, 3) := by decide +kernel
theorem dgX10_gather_206 : decode cX10_gather 206 = .ok (.goto (-182), 3) := by decide +kernel
theorem dgX10_gather_209 : decode cX10_gather 209 = .ok (.iinc 1 1, 3) := by decide +kernel
theorem dgX10_gather_212 : decode cX10_gather 212 = .ok (.goto (-210), 3) := by decide +kernel
theorem dgX10_gather_215 : decode cX10_gather 215 = .ok (.iconst 1, 1) := by decide +kernel
theorem dgX10_gather_216 : decode cX10_gather 216 = .ok (.ireturn, 1) := by decide +kernel
def wg_X10_gather : List Cond := .code yX10_gather cX10_gather 4 (some .boolean) :: (([.fieldLink RX10 56 "KnotHouse$Summit" "size" "I", .fieldLink RX10 59 "KnotHouse$Summit" "simpleCount" "I", .fieldLink RX10 21 "KnotHouse$Summit" "work" "LKnotHouse$Form;", .fieldLink RX10 87 "KnotHouse$Summit" "power" "I", .fieldLink RX10 75 "KnotHouse$Form" "power" "I", .fieldLink RX10 88 "KnotHouse$Summit" "length" "I", .fieldLink RX10 81 "KnotHouse$Form" "length" "I", .fieldLink RX10 11 "KnotHouse$Summit" "rows" "[I", .fieldLink RX10 96 "KnotHouse$Form" "factors" "[I", .fieldLink RX10 25 "KnotHouse$Summit" "simples" "[I", .fieldLink RX10 31 "KnotHouse$Summit" "stayed" "[I", .fieldLink RX10 28 "KnotHouse$Summit" "changes" "[I", .methodLink RX10 99 arraycopyName, .native arraycopyName, .static arraycopyName, .initialized "java/lang/System"] ++ wsX100 ++ wsX50) ++ (wsV RX10 92 RX10 yX10_goesOn wg_X10_goesOn ++ (wsV RX10 105 RX5 yX5_conjugateBy wg_X5_conjugateBy ++ (wsV RX10 89 RX10 yX10_add wg_X10_add ++ []))))
theorem gg_X10_gather_0 : GoodIn wg_X10_gather (wsV RX10 92 RX10 yX10_goesOn wg_X10_goesOn) := goodIn_sub (fun _ h => List.mem_cons_of_mem _ (List.mem_append_right _ (List.mem_append_left _ h))) (by decide +kernel)
theorem gg_X10_gather_1 : GoodIn wg_X10_gather (wsV RX10 105 RX5 yX5_conjugateBy wg_X5_conjugateBy) := goodIn_sub (fun _ h => List.mem_cons_of_mem _ (List.mem_append_right _ (List.mem_append_right _ (List.mem_append_left _ h)))) (by decide +kernel)
theorem gg_X10_gather_2 : GoodIn wg_X10_gather (wsV RX10 89 RX10 yX10_add wg_X10_add) := goodIn_sub (fun _ h => List.mem_cons_of_mem _ (List.mem_append_right _ (List.mem_append_right _ (List.mem_append_right _ (List.mem_append_left _ h))))) (by decide +kernel)
set_option maxHeartbeats 4000000 in
set_option maxRecDepth 100000 in
theorem kg_X10_gather (l : Launch) (dC : Nat → ClassId) (dI : Nat → Nat → Nat) (cI cB cJ cZ : ClassId) (aU : Nat) (ux : Nat → Nat) (n fc : Nat) (hn1 : 1 ≤ n) (hn9 : n < 100) (pw idn den : Int32) (ln cnt : Nat) (hcnt : cnt ≤ 24) (SI CH ST : Nat → Int32) (q : ow_FO) (M : ow_SM) (hga : ga_ok ln q M) (sz : Nat) : Met l yX10_gather wg_X10_gather (({ frames := 5, cells := 0, slots := 0, locals := 250 } : Room)) (va_Pc [.ref aU] (fun U => U.heap.size = sz ∧ va_P (dC, dI) vwCl [(aU, .inr (13, [.int (nI n), .int pw, .int (nI ln), .int (nI M.1), .ref (ux 0), .ref (ux 1), .ref (ux 2), .ref (ux 3), .ref (ux 4), .ref (ux 5), .int (nI cnt)])), ((ux 0), .inl (cI, 4020, .inl M.2.1)), ((ux 1), .inl (cI, 201, .inl (ow_nI M.2.2))), ((ux 2), .inr (8, [.int (nI n), .int q.1, .int (nI q.2.1), .ref fc, .int idn, .int den])), (fc, .inl (cI, 24, .inl q.2.2)), ((ux 3), .inl (cI, 24, .inl SI)), ((ux 4), .inl (cI, 24, .inl CH)), ((ux 5), .inl (cI, 24, .inl ST))] U.heap ∧ va_K (dC, dI) vwCl [(cI, .int), (cB, .byte), (cJ, .long), (cZ, .boolean)] U ∧ va_D (fun _ => True) [(aU, .inr (13, [.int (nI n), .int pw, .int (nI ln), .int (nI M.1), .ref (ux 0), .ref (ux 1), .ref (ux 2), .ref (ux 3), .ref (ux 4), .ref (ux 5), .int (nI cnt)])), ((ux 0), .inl (cI, 4020, .inl M.2.1)), ((ux 1), .inl (cI, 201, .inl (ow_nI M.2.2))), ((ux 2), .inr (8, [.int (nI n), .int q.1, .int (nI q.2.1), .ref fc, .int idn, .int den])), (fc, .inl (cI, 24, .inl q.2.2)), ((ux 3), .inl (cI, 24, .inl SI)), ((ux 4), .inl (cI, 24, .inl CH)), ((ux 5), .inl (cI, 24, .inl ST))])) (va_Qi (fun r (g : Unit) => r = bI (sm_ou ((n, idn, den, pw, ln, SI, CH, cnt) : ow_GC) 202 0 (q, M, ST)).1) (fun g t => va_P (dC, dI) vwCl [(aU, .inr (13, [.int (nI n), .int pw, .int (nI ln), .int (nI ((sm_ou ((n, idn, den, pw, ln, SI, CH, cnt) : ow_GC) 202 0 (q, M, ST)).2.2.1.1)), .ref (ux 0), .ref (ux 1), .ref (ux 2), .ref (ux 3), .ref (ux 4), .ref (ux 5), .int (nI cnt)])), ((ux 0), .inl (cI, 4020, .inl ((sm_ou ((n, idn, den, pw, ln, SI, CH, cnt) : ow_GC) 202 0 (q, M, ST)).2.2.1.2.1))), ((ux 1), .inl (cI, 201, .inl (ow_nI (sm_ou ((n, idn, den, pw, ln, SI, CH, cnt) : ow_GC) 202 0 (q, M, ST)).2.2.1.2.2))), ((ux 2), .inr (8, [.int (nI n), .int (sm_ou ((n, idn, den, pw, ln, SI, CH, cnt) : ow_GC) 202 0 (q, M, ST)).2.1.1, .int (nI ((sm_ou ((n, idn, den, pw, ln, SI, CH, cnt) : ow_GC) 202 0 (q, M, ST)).2.1.2.1)), .ref fc, .int idn, .int den])), (fc, .inl (cI, 24, .inl ((sm_ou ((n, idn, den, pw, ln, SI, CH, cnt) : ow_GC) 202 0 (q, M, ST)).2.1.2.2))), ((ux 3), .inl (cI, 24, .inl SI)), ((ux 4), .inl (cI, 24, .inl CH)), ((ux 5), .inl (cI, 24, .inl ((sm_ou ((n, idn, den, pw, ln, SI, CH, cnt) : ow_GC) 202 0 (q, M, ST)).2.2.2)))] t.heap ∧ va_D (va_A [(aU, .inr (13, [.int (nI n), .int pw, .int (nI ln), .int (nI M.1), .ref (ux 0), .ref (ux 1), .ref (ux 2), .ref (ux 3), .ref (ux 4), .ref (ux 5), .int (nI cnt)])), ((ux 0), .inl (cI, 4020, .inl M.2.1)), ((ux 1), .inl (cI, 201, .inl (ow_nI M.2.2))), ((ux 2), .inr (8, [.int (nI n), .int q.1, .int (nI q.2.1), .ref fc, .int idn, .int den])), (fc, .inl (cI, 24, .inl q.2.2)), ((ux 3), .inl (cI, 24, .inl SI)), ((ux 4), .inl (cI, 24, .inl CH)), ((ux 5), .inl (cI, 24, .inl ST))] sz) [(aU, .inr (13, [.int (nI n), .int pw, .int (nI ln), .int (nI ((sm_ou ((n, idn, den, pw, ln, SI, CH, cnt) : ow_GC) 202 0 (q, M, ST)).2.2.1.1)), .ref (ux 0), .ref (ux 1), .ref (ux 2), .ref (ux 3), .ref (ux 4), .ref (ux 5), .int (nI cnt)])), ((ux 0), .inl (cI, 4020, .inl ((sm_ou ((n, idn, den, pw, ln, SI, CH, cnt) : ow_GC) 202 0 (q, M, ST)).2.2.1.2.1))), ((ux 1), .inl (cI, 201, .inl (ow_nI (sm_ou ((n, idn, den, pw, ln, SI, CH, cnt) : ow_GC) 202 0 (q, M, ST)).2.2.1.2.2))), ((ux 2), .inr (8, [.int (nI n), .int (sm_ou ((n, idn, den, pw, ln, SI, CH, cnt) : ow_GC) 202 0 (q, M, ST)).2.1.1, .int (nI ((sm_ou ((n, idn, den, pw, ln, SI, CH, cnt) : ow_GC) 202 0 (q, M, ST)).2.1.2.1)), .ref fc, .int idn, .int den])), (fc, .inl (cI, 24, .inl ((sm_ou ((n, idn, den, pw, ln, SI, CH, cnt) : ow_GC) 202 0 (q, M, ST)).2.1.2.2))), ((ux 3), .inl (cI, 24, .inl SI)), ((ux 4), .inl (cI, 24, .inl CH)), ((ux 5), .inl (cI, 24, .inl ((sm_ou ((n, idn, den, pw, ln, SI, CH, cnt) : ow_GC) 202 0 (q, M, ST)).2.2.2)))]) (va_A [(aU, .inr (13, [.int (nI n), .int pw, .int (nI ln), .int (nI M.1), .ref (ux 0), .ref (ux 1), .ref (ux 2), .ref (ux 3), .ref (ux 4), .ref (ux 5), .int (nI cnt)])), ((ux 0), .inl (cI, 4020, .inl M.2.1)), ((ux 1), .inl (cI, 201, .inl (ow_nI M.2.2))), ((ux 2), .inr (8, [.int (nI n), .int q.1, .int (nI q.2.1), .ref fc, .int idn, .int den])), (fc, .inl (cI, 24, .inl q.2.2)), ((ux 3), .inl (cI, 24, .inl SI)), ((ux 4), .inl (cI, 24, .inl CH)), ((ux 5), .inl (cI, 24, .inl ST))] sz)) 0 0 (va_A [(aU, .inr (13, [.int (nI n), .int pw, .int (nI ln), .int (nI M.1), .ref (ux 0), .ref (ux 1), .ref (ux 2), .ref (ux 3), .ref (ux 4), .ref (ux 5), .int (nI cnt)])), ((ux 0), .inl (cI, 4020, .inl M.2.1)), ((ux 1), .inl (cI, 201, .inl (ow_nI M.2.2))), ((ux 2), .inr (8, [.int (nI n), .int q.1, .int (nI q.2.1), .ref fc, .int idn, .int den])), (fc, .inl (cI, 24, .inl q.2.2)), ((ux 3), .inl (cI, 24, .inl SI)), ((ux 4), .inl (cI, 24, .inl CH)), ((ux 5), .inl (cI, 24, .inl ST))] sz) := by
  refine Met.ofW (cc := cX10_gather) (maxL := 4) (ret := (some .boolean)) (by decide) rfl ?_
  intro p e s m args below meth c s₁ B hml hv
  obtain ⟨rfl, hsz, hP, hK, hD0⟩ := hv
  have hx := B.exec
  have hb := B.bytes
  have hr := B.returns
  have hts := atoms_spec (ws := wg_X10_gather) B.pre
  have hown : s.vm.findClass RX10 = some m.cls := findClass_of_methodNamed B.named
  have hlocks := B.notSynchronized
  subst hsz
  have hD := hD0.self (sz := s.heap.size)
  generalize hAe : va_A [(aU, .inr (13, [.int (nI n), .int pw, .int (nI ln), .int (nI M.1), .ref (ux 0), .ref (ux 1), .ref (ux 2), .ref (ux 3), .ref (ux 4), .ref (ux 5), .int (nI cnt)])), ((ux 0), .inl (cI, 4020, .inl M.2.1)), ((ux 1), .inl (cI, 201, .inl (ow_nI M.2.2))), ((ux 2), .inr (8, [.int (nI n), .int q.1, .int (nI q.2.1), .ref fc, .int idn, .int den])), (fc, .inl (cI, 24, .inl q.2.2)), ((ux 3), .inl (cI, 24, .inl SI)), ((ux 4), .inl (cI, 24, .inl CH)), ((ux 5), .inl (cI, 24, .inl ST))] s.heap.size = A at hD ⊢
  have hA : ∀ q : Nat, s.heap.size ≤ q → A q := fun q h => by rw [← hAe]; exact Or.inr h
  have hS : va_S A s.heap s.heap [] := va_S.rf
  have hP : va_P (dC, dI) vwCl [(aU, .inr (13, [.int (nI n), .int pw, .int (nI ln), .int (nI M.1), .ref (ux 0), .ref (ux 1), .ref (ux 2), .ref (ux 3), .ref (ux 4), .ref (ux 5), .int (nI cnt)])), ((ux 0), .inl (cI, 4020, .inl M.2.1)), ((ux 1), .inl (cI, 201, .inl (ow_nI M.2.2))), ((ux 2), .inr (8, [.int (nI n), .int q.1, .int (nI q.2.1), .ref fc, .int idn, .int den])), (fc, .inl (cI, 24, .inl q.2.2)), ((ux 3), .inl (cI, 24, .inl SI)), ((ux 4), .inl (cI, 24, .inl CH)), ((ux 5), .inl (cI, 24, .inl ST))] s.heap := hP
  have hl := lv_entry ([.ref aU]) (n := 4) (Nat.le_of_ble_eq_true rfl)
  rw [lg_entry_eq]
  generalize (lg_sl ([.ref aU]) ++ List.replicate (4 - (lg_sl ([.ref aU])).length) Slot.unset).toArray = ls at hl ⊢
  have hl : lv_has ls 4 [(0, .ref aU)] := hl
  refine ow_named (fun QQ hQQ => ?_)
  suffices key9 : ∀ (H : Heap) (locs : List Loc), va_P (dC, dI) vwCl [(aU, .inr (13, [.int (nI n), .int pw, .int (nI ln), .int (nI M.1), .ref (ux 0), .ref (ux 1), .ref (ux 2), .ref (ux 3), .ref (ux 4), .ref (ux 5), .int (nI cnt)])), ((ux 0), .inl (cI, 4020, .inl M.2.1)), ((ux 1), .inl (cI, 201, .inl (ow_nI M.2.2))), ((ux 2), .inr (8, [.int (nI n), .int q.1, .int (nI q.2.1), .ref fc, .int idn, .int den])), (fc, .inl (cI, 24, .inl q.2.2)), ((ux 3), .inl (cI, 24, .inl SI)), ((ux 4), .inl (cI, 24, .inl CH)), ((ux 5), .inl (cI, 24, .inl ST))] H → va_S A s.heap H locs → W p l e ({ frames := 5, cells := 0, slots := 0, locals := 250 } : Room) s m ([.ref aU] : List Value).toArray below meth c H locs 0 0 QQ (F0 m 0 ls []) from key9 s.heap [] hP hS
  intro H locs hP hS
  obtain ⟨G9, hG9⟩ : ∃ X : ow_GC, X = (n, idn, den, pw, ln, SI, CH, cnt) := ⟨_, rfl⟩
  obtain ⟨RES, hRES⟩ : ∃ X, X = sm_ou G9 202 0 (q, M, ST) := ⟨_, rfl⟩
  have hRE : (sm_ou ((n, idn, den, pw, ln, SI, CH, cnt) : ow_GC) 202 0 (q, M, ST)) = RES := by rw [hRES, hG9]
  have L2 : ∀ (d i : Nat) (g : ow_GS), i + d = 202 → RES = sm_ou G9 d i g → ga_ok ln g.1 g.2.1 → ∀ (H : Heap) (locs : List Loc) (ls : Array Slot), va_P (dC, dI) vwCl [(aU, .inr (13, [.int (nI n), .int pw, .int (nI ln), .int (nI g.2.1.1), .ref (ux 0), .ref (ux 1), .ref (ux 2), .ref (ux 3), .ref (ux 4), .ref (ux 5), .int (nI cnt)])), ((ux 0), .inl (cI, 4020, .inl g.2.1.2.1)), ((ux 1), .inl (cI, 201, .inl (ow_nI g.2.1.2.2))), ((ux 2), .inr (8, [.int (nI n), .int g.1.1, .int (nI g.1.2.1), .ref fc, .int idn, .int den])), (fc, .inl (cI, 24, .inl g.1.2.2)), ((ux 3), .inl (cI, 24, .inl SI)), ((ux 4), .inl (cI, 24, .inl CH)), ((ux 5), .inl (cI, 24, .inl g.2.2))] H → va_D A [(aU, .inr (13, [.int (nI n), .int pw, .int (nI ln), .int (nI g.2.1.1), .ref (ux 0), .ref (ux 1), .ref (ux 2), .ref (ux 3), .ref (ux 4), .ref (ux 5), .int (nI cnt)])), ((ux 0), .inl (cI, 4020, .inl g.2.1.2.1)), ((ux 1), .inl (cI, 201, .inl (ow_nI g.2.1.2.2))), ((ux 2), .inr (8, [.int (nI n), .int g.1.1, .int (nI g.1.2.1), .ref fc, .int idn, .int den])), (fc, .inl (cI, 24, .inl g.1.2.2)), ((ux 3), .inl (cI, 24, .inl SI)), ((ux 4), .inl (cI, 24, .inl CH)), ((ux 5), .inl (cI, 24, .inl g.2.2))] → va_S A s.heap H locs → lv_has ls 4 [(0, .ref aU), (1, .int (nI i))] → W p l e ({ frames := 5, cells := 0, slots := 0, locals := 250 } : Room) s m ([.ref aU] : List Value).toArray below meth c H locs 0 0 QQ (F0 m 2 ls []) := by
    intro d
    induction d with
    | zero =>
      intro i g hi hQ hok H locs ls hP hD hS hl
      have hsz := hok.2.1
      have hQ : RES = (true, g) := hQ
      refine lv_iload_n hx hb dgX10_gather_2 rfl (lv_at hl 1 rfl) ?_
      refine lv_aload_n hx hb dgX10_gather_3 rfl (lv_at hl 0 rfl) ?_
      refine va_get (D := (dC, dI)) (ci := 13) (v := .int (nI g.2.1.1)) (C := RX10) (T := TX10) (N := 11) hx hb hts (fun _ h => List.mem_cons_of_mem _ (List.mem_append_left _ (List.mem_append_left _ (List.mem_append_right _ h)))) hown hK hP 0 rfl rfl 3 (by decide) (hts (.fieldLink RX10 56 "KnotHouse$Summit" "size" "I") (by decide +kernel)) (fun _ h9 => h9) rfl dgX10_gather_4 ?_
      refine lv_icmp_ge (tgt := 215) hx hb dgX10_gather_7 (by decide) (fun _ => ?_) (fun c9 => absurd (nI_le (a := g.2.1.1) (b := i) (by omega) (by omega)) c9)
      refine lv_iconst (v := 1) hx hb dgX10_gather_215 (by decide) ?_
      have hP : va_P (dC, dI) vwCl [(aU, .inr (13, [.int (nI n), .int pw, .int (nI ln), .int (nI ((sm_ou ((n, idn, den, pw, ln, SI, CH, cnt) : ow_GC) 202 0 (q, M, ST)).2.2.1.1)), .ref (ux 0), .ref (ux 1), .ref (ux 2), .ref (ux 3), .ref (ux 4), .ref (ux 5), .int (nI cnt)])), ((ux 0), .inl (cI, 4020, .inl ((sm_ou ((n, idn, den, pw, ln, SI, CH, cnt) : ow_GC) 202 0 (q, M, ST)).2.2.1.2.1))), ((ux 1), .inl (cI, 201, .inl (ow_nI (sm_ou ((n, idn, den, pw, ln, SI, CH, cnt) : ow_GC) 202 0 (q, M, ST)).2.2.1.2.2))), ((ux 2), .inr (8, [.int (nI n), .int (sm_ou ((n, idn, den, pw, ln, SI, CH, cnt) : ow_GC) 202 0 (q, M, ST)).2.1.1, .int (nI ((sm_ou ((n, idn, den, pw, ln, SI, CH, cnt) : ow_GC) 202 0 (q, M, ST)).2.1.2.1)), .ref fc, .int idn, .int den])), (fc, .inl (cI, 24, .inl ((sm_ou ((n, idn, den, pw, ln, SI, CH, cnt) : ow_GC) 202 0 (q, M, ST)).2.1.2.2))), ((ux 3), .inl (cI, 24, .inl SI)), ((ux 4), .inl (cI, 24, .inl CH)), ((ux 5), .inl (cI, 24, .inl ((sm_ou ((n, idn, den, pw, ln, SI, CH, cnt) : ow_GC) 202 0 (q, M, ST)).2.2.2)))] H := by rw [hRE, hQ]; exact hP
      have hD : va_D A [(aU, .inr (13, [.int (nI n), .int pw, .int (nI ln), .int (nI ((sm_ou ((n, idn, den, pw, ln, SI, CH, cnt) : ow_GC) 202 0 (q, M, ST)).2.2.1.1)), .ref (ux 0), .ref (ux 1), .ref (ux 2), .ref (ux 3), .ref (ux 4), .ref (ux 5), .int (nI cnt)])), ((ux 0), .inl (cI, 4020, .inl ((sm_ou ((n, idn, den, pw, ln, SI, CH, cnt) : ow_GC) 202 0 (q, M, ST)).2.2.1.2.1))), ((ux 1), .inl (cI, 201, .inl (ow_nI (sm_ou ((n, idn, den, pw, ln, SI, CH, cnt) : ow_GC) 202 0 (q, M, ST)).2.2.1.2.2))), ((ux 2), .inr (8, [.int (nI n), .int (sm_ou ((n, idn, den, pw, ln, SI, CH, cnt) : ow_GC) 202 0 (q, M, ST)).2.1.1, .int (nI ((sm_ou ((n, idn, den, pw, ln, SI, CH, cnt) : ow_GC) 202 0 (q, M, ST)).2.1.2.1)), .ref fc, .int idn, .int den])), (fc, .inl (cI, 24, .inl ((sm_ou ((n, idn, den, pw, ln, SI, CH, cnt) : ow_GC) 202 0 (q, M, ST)).2.1.2.2))), ((ux 3), .inl (cI, 24, .inl SI)), ((ux 4), .inl (cI, 24, .inl CH)), ((ux 5), .inl (cI, 24, .inl ((sm_ou ((n, idn, den, pw, ln, SI, CH, cnt) : ow_GC) 202 0 (q, M, ST)).2.2.2)))] := by rw [hRE, hQ]; exact hD
      rw [hQQ]
      exact W.zret (v := 1) (ty := .boolean) hx hb hr rfl (fun t ht hW => ⟨⟨1, (), rfl, by rw [hRE, hQ]; rfl, by rw [ht]; exact hP, hD⟩, hS.F ht⟩) hS.2.2 dgX10_gather_216
    | succ d ih =>
      intro i g hi hQ hok H locs ls hP hD hS hl
      have hsz := hok.2.1
      have hln := hok.2.2.2.2
      have hQ : RES = (if i < g.2.1.1 ∧ g.2.1.1 ≤ 200 then (if (sm_in G9 i cnt 0 (g.1, g.2.1, g.2.2, 0)).1 then sm_ou G9 d (i + 1) ((sm_in G9 i cnt 0 (g.1, g.2.1, g.2.2, 0)).2.1, (sm_in G9 i cnt 0 (g.1, g.2.1, g.2.2, 0)).2.2.1, (sm_in G9 i cnt 0 (g.1, g.2.1, g.2.2, 0)).2.2.2.1) else (false, ((sm_in G9 i cnt 0 (g.1, g.2.1, g.2.2, 0)).2.1, (sm_in G9 i cnt 0 (g.1, g.2.1, g.2.2, 0)).2.2.1, (sm_in G9 i cnt 0 (g.1, g.2.1, g.2.2, 0)).2.2.2.1))) else (true, g)) := by rw [hQ, sm_ou, hG9]
      refine lv_iload_n hx hb dgX10_gather_2 rfl (lv_at hl 1 rfl) ?_
      refine lv_aload_n hx hb dgX10_gather_3 rfl (lv_at hl 0 rfl) ?_
      refine va_get (D := (dC, dI)) (ci := 13) (v := .int (nI g.2.1.1)) (C := RX10) (T := TX10) (N := 11) hx hb hts (fun _ h => List.mem_cons_of_mem _ (List.mem_append_left _ (List.mem_append_left _ (List.mem_append_right _ h)))) hown hK hP 0 rfl rfl 3 (by decide) (hts (.fieldLink RX10 56 "KnotHouse$Summit" "size" "I") (by decide +kernel)) (fun _ h9 => h9) rfl dgX10_gather_4 ?_
      rcases Nat.lt_or_ge i g.2.1.1 with h1 | h1
      · refine lv_icmp_ge (tgt := 215) hx hb dgX10_gather_7 (by decide) (fun c9 => absurd c9 (nI_ge (a := i) (b := g.2.1.1) h1 (by omega))) (fun _ => ?_)
        refine lv_aload_n hx hb dgX10_gather_10 rfl (lv_at hl 0 rfl) ?_
        refine va_get (D := (dC, dI)) (ci := 13) (v := .int (nI g.2.1.1)) (C := RX10) (T := TX10) (N := 11) hx hb hts (fun _ h => List.mem_cons_of_mem _ (List.mem_append_left _ (List.mem_append_left _ (List.mem_append_right _ h)))) hown hK hP 0 rfl rfl 3 (by decide) (hts (.fieldLink RX10 56 "KnotHouse$Summit" "size" "I") (by decide +kernel)) (fun _ h9 => h9) rfl dgX10_gather_11 ?_
        refine lv_sipush (v := 200) hx hb dgX10_gather_14 (by decide) ?_
        rcases Nat.lt_or_ge 200 g.2.1.1 with h2 | h2
        · rw [if_neg (fun h9 => absurd h9.2 (by omega))] at hQ
          refine lv_icmp_gt (tgt := 215) hx hb dgX10_gather_17 (by decide) (fun _ => ?_) (fun c9 => absurd (nI_lt (a := 200) (b := g.2.1.1) h2 (by omega)) c9)
          refine lv_iconst (v := 1) hx hb dgX10_gather_215 (by decide) ?_
          have hP : va_P (dC, dI) vwCl [(aU, .inr (13, [.int (nI n), .int pw, .int (nI ln), .int (nI ((sm_ou ((n, idn, den, pw, ln, SI, CH, cnt) : ow_GC) 202 0 (q, M, ST)).2.2.1.1)), .ref (ux 0), .ref (ux 1), .ref (ux 2), .ref (ux 3), .ref (ux 4), .ref (ux 5), .int (nI cnt)])), ((ux 0), .inl (cI, 4020, .inl ((sm_ou ((n, idn, den, pw, ln, SI, CH, cnt) : ow_GC) 202 0 (q, M, ST)).2.2.1.2.1))), ((ux 1), .inl (cI, 201, .inl (ow_nI (sm_ou ((n, idn, den, pw, ln, SI, CH, cnt) : ow_GC) 202 0 (q, M, ST)).2.2.1.2.2))), ((ux 2), .inr (8, [.int (nI n), .int (sm_ou ((n, idn, den, pw, ln, SI, CH, cnt) : ow_GC) 202 0 (q, M, ST)).2.1.1, .int (nI ((sm_ou ((n, idn, den, pw, ln, SI, CH, cnt) : ow_GC) 202 0 (q, M, ST)).2.1.2.1)), .ref fc, .int idn, .int den])), (fc, .inl (cI, 24, .inl ((sm_ou ((n, idn, den, pw, ln, SI, CH, cnt) : ow_GC) 202 0 (q, M, ST)).2.1.2.2))), ((ux 3), .inl (cI, 24, .inl SI)), ((ux 4), .inl (cI, 24, .inl CH)), ((ux 5), .inl (cI, 24, .inl ((sm_ou ((n, idn, den, pw, ln, SI, CH, cnt) : ow_GC) 202 0 (q, M, ST)).2.2.2)))] H := by rw [hRE, hQ]; exact hP
          have hD : va_D A [(aU, .inr (13, [.int (nI n), .int pw, .int (nI ln), .int (nI ((sm_ou ((n, idn, den, pw, ln, SI, CH, cnt) : ow_GC) 202 0 (q, M, ST)).2.2.1.1)), .ref (ux 0), .ref (ux 1), .ref (ux 2), .ref (ux 3), .ref (ux 4), .ref (ux 5), .int (nI cnt)])), ((ux 0), .inl (cI, 4020, .inl ((sm_ou ((n, idn, den, pw, ln, SI, CH, cnt) : ow_GC) 202 0 (q, M, ST)).2.2.1.2.1))), ((ux 1), .inl (cI, 201, .inl (ow_nI (sm_ou ((n, idn, den, pw, ln, SI, CH, cnt) : ow_GC) 202 0 (q, M, ST)).2.2.1.2.2))), ((ux 2), .inr (8, [.int (nI n), .int (sm_ou ((n, idn, den, pw, ln, SI, CH, cnt) : ow_GC) 202 0 (q, M, ST)).2.1.1, .int (nI ((sm_ou ((n, idn, den, pw, ln, SI, CH, cnt) : ow_GC) 202 0 (q, M, ST)).2.1.2.1)), .ref fc, .int idn, .int den])), (fc, .inl (cI, 24, .inl ((sm_ou ((n, idn, den, pw, ln, SI, CH, cnt) : ow_GC) 202 0 (q, M, ST)).2.1.2.2))), ((ux 3), .inl (cI, 24, .inl SI)), ((ux 4), .inl (cI, 24, .inl CH)), ((ux 5), .inl (cI, 24, .inl ((sm_ou ((n, idn, den, pw, ln, SI, CH, cnt) : ow_GC) 202 0 (q, M, ST)).2.2.2)))] := by rw [hRE, hQ]; exact hD
          rw [hQQ]
          exact W.zret (v := 1) (ty := .boolean) hx hb hr rfl (fun t ht hW => ⟨⟨1, (), rfl, by rw [hRE, hQ]; rfl, by rw [ht]; exact hP, hD⟩, hS.F ht⟩) hS.2.2 dgX10_gather_216
        · rw [if_pos ⟨h1, h2⟩] at hQ
          have hl20 := hok.2.2.2.1 (by omega)
          refine lv_icmp_gt (tgt := 215) hx hb dgX10_gather_17 (by decide) (fun c9 => absurd c9 (nI_nlt (a := 200) (b := g.2.1.1) h2 (by omega))) (fun _ => ?_)
          refine lv_iconst (v := 0) hx hb dgX10_gather_20 (by decide) ?_
          refine ow_topi (y := nI 0) (by decide) ?_
          refine lv_istore_n (lv' := [(2, .int (nI 0)), (0, .ref aU), (1, .int (nI i))]) hx hb dgX10_gather_21 rfl hl (by decide) rfl (fun ls hl => ?_)
          refine lv_iconst (v := 0) hx hb dgX10_gather_22 (by decide) ?_
          refine ow_topi (y := nI 0) (by decide) ?_
          refine lv_istore_n (lv' := [(3, .int (nI 0)), (2, .int (nI 0)), (0, .ref aU), (1, .int (nI i))]) hx hb dgX10_gather_23 rfl hl (by decide) rfl (fun ls hl => ?_)
          generalize hIN : (sm_in G9 i cnt 0 (g.1, g.2.1, g.2.2, 0)) = IN at hQ
          have K209 : ∀ (t9 : ow_GA), IN = (true, t9) → ga_ok ln t9.1 t9.2.1 → ∀ (H : Heap) (locs : List Loc) (ls : Array Slot), va_P (dC, dI) vwCl [(aU, .inr (13, [.int (nI n), .int pw, .int (nI ln), .int (nI t9.2.1.1), .ref (ux 0), .ref (ux 1), .ref (ux 2), .ref (ux 3), .ref (ux 4), .ref (ux 5), .int (nI cnt)])), ((ux 0), .inl (cI, 4020, .inl t9.2.1.2.1)), ((ux 1), .inl (cI, 201, .inl (ow_nI t9.2.1.2.2))), ((ux 2), .inr (8, [.int (nI n), .int t9.1.1, .int (nI t9.1.2.1), .ref fc, .int idn, .int den])), (fc, .inl (cI, 24, .inl t9.1.2.2)), ((ux 3), .inl (cI, 24, .inl SI)), ((ux 4), .inl (cI, 24, .inl CH)), ((ux 5), .inl (cI, 24, .inl t9.2.2.1))] H → va_D A [(aU, .inr (13, [.int (nI n), .int pw, .int (nI ln), .int (nI t9.2.1.1), .ref (ux 0), .ref (ux 1), .ref (ux 2), .ref (ux 3), .ref (ux 4), .ref (ux 5), .int (nI cnt)])), ((ux 0), .inl (cI, 4020, .inl t9.2.1.2.1)), ((ux 1), .inl (cI, 201, .inl (ow_nI t9.2.1.2.2))), ((ux 2), .inr (8, [.int (nI n), .int t9.1.1, .int (nI t9.1.2.1), .ref fc, .int idn, .int den])), (fc, .inl (cI, 24, .inl t9.1.2.2)), ((ux 3), .inl (cI, 24, .inl SI)), ((ux 4), .inl (cI, 24, .inl CH)), ((ux 5), .inl (cI, 24, .inl t9.2.2.1))] → va_S A s.heap H locs → lv_has ls 4 [(0, .ref aU), (1, .int (nI i))] → W p l e ({ frames := 5, cells := 0, slots := 0, locals := 250 } : Room) s m ([.ref aU] : List Value).toArray below meth c H locs 0 0 QQ (F0 m 209 ls []) := by
            intro t9 hI hok9 H locs ls hP hD hS hl
            rw [hI] at hQ
            refine lv_iinc (v := nI (i + 1)) (lv' := [(1, .int (nI (i + 1))), (0, .ref aU)]) hx hb dgX10_gather_209 hl (k := 1) rfl (nI_1 i) (by decide) rfl (fun ls hl => ?_)
            refine lv_goto (tgt := 2) hx hb dgX10_gather_212 (by decide) ?_
            exact ih (i + 1) (t9.1, t9.2.1, t9.2.2.1) (by omega) hQ hok9 H locs ls hP hD hS (lv_sub hl [1, 0] rfl)
          have L24 : ∀ (d2 k : Nat) (t9 : ow_GA), k + d2 = cnt → t9.2.2.2 ≤ k → i < t9.2.1.1 → IN = sm_in G9 i d2 k t9 → ga_ok ln t9.1 t9.2.1 → ∀ (H : Heap) (locs : List Loc) (ls : Array Slot), va_P (dC, dI) vwCl [(aU, .inr (13, [.int (nI n), .int pw, .int (nI ln), .int (nI t9.2.1.1), .ref (ux 0), .ref (ux 1), .ref (ux 2), .ref (ux 3), .ref (ux 4), .ref (ux 5), .int (nI cnt)])), ((ux 0), .inl (cI, 4020, .inl t9.2.1.2.1)), ((ux 1), .inl (cI, 201, .inl (ow_nI t9.2.1.2.2))), ((ux 2), .inr (8, [.int (nI n), .int t9.1.1, .int (nI t9.1.2.1), .ref fc, .int idn, .int den])), (fc, .inl (cI, 24, .inl t9.1.2.2)), ((ux 3), .inl (cI, 24, .inl SI)), ((ux 4), .inl (cI, 24, .inl CH)), ((ux 5), .inl (cI, 24, .inl t9.2.2.1))] H → va_D A [(aU, .inr (13, [.int (nI n), .int pw, .int (nI ln), .int (nI t9.2.1.1), .ref (ux 0), .ref (ux 1), .ref (ux 2), .ref (ux 3), .ref (ux 4), .ref (ux 5), .int (nI cnt)])), ((ux 0), .inl (cI, 4020, .inl t9.2.1.2.1)), ((ux 1), .inl (cI, 201, .inl (ow_nI t9.2.1.2.2))), ((ux 2), .inr (8, [.int (nI n), .int t9.1.1, .int (nI t9.1.2.1), .ref fc, .int idn, .int den])), (fc, .inl (cI, 24, .inl t9.1.2.2)), ((ux 3), .inl (cI, 24, .inl SI)), ((ux 4), .inl (cI, 24, .inl CH)), ((ux 5), .inl (cI, 24, .inl t9.2.2.1))] → va_S A s.heap H locs → lv_has ls 4 [(0, .ref aU), (1, .int (nI i)), (2, .int (nI t9.2.2.2)), (3, .int (nI k))] → W p l e ({ frames := 5, cells := 0, slots := 0, locals := 250 } : Room) s m ([.ref aU] : List Value).toArray below meth c H locs 0 0 QQ (F0 m 24 ls []) := by
            intro d2
            induction d2 with
            | zero =>
              intro k t9 hk hzk hit hI hok9 H locs ls hP hD hS hl
              refine lv_iload_n hx hb dgX10_gather_24 rfl (lv_at hl 3 rfl) ?_
              refine lv_aload_n hx hb dgX10_gather_25 rfl (lv_at hl 0 rfl) ?_
              refine va_get (D := (dC, dI)) (ci := 13) (v := .int (nI cnt)) (C := RX10) (T := TX10) (N := 11) hx hb hts (fun _ h => List.mem_cons_of_mem _ (List.mem_append_left _ (List.mem_append_left _ (List.mem_append_right _ h)))) hown hK hP 0 rfl rfl 10 (by decide) (hts (.fieldLink RX10 59 "KnotHouse$Summit" "simpleCount" "I") (by decide +kernel)) (fun _ h9 => h9) rfl dgX10_gather_26 ?_
              refine lv_icmp_ge (tgt := 209) hx hb dgX10_gather_29 (by decide) (fun _ => ?_) (fun c9 => absurd (nI_le (a := cnt) (b := k) (by omega) (by omega)) c9)
              exact K209 t9 hI hok9 H locs ls hP hD hS (lv_sub hl [0, 1] rfl)
            | succ d2 ih2 =>
              intro k t9 hk hzk hit hI hok9 H locs ls hP hD hS hl
              have hsz9 := hok9.2.1
              have hl9 := hok9.2.2.2.1 (by omega)
              have hI : IN = (if 200 < t9.2.1.1 then (true, t9) else if sm_go t9.2.2.1 (CH k) t9.2.2.2 0 then sm_in G9 i d2 (k + 1) t9 else if pw < (sm_cj G9 i k t9).1 ∨ ((sm_cj G9 i k t9).1 = pw ∧ (sm_cj G9 i k t9).2.1 < ln) then (false, ((sm_cj G9 i k t9), t9.2)) else if (sm_cj G9 i k t9).1 = pw ∧ (sm_cj G9 i k t9).2.1 = ln then sm_in G9 i d2 (k + 1) ((sm_cj G9 i k t9), sm_add t9.2.1 (sm_cj G9 i k t9).2.2 ln, su t9.2.2.1 t9.2.2.2 (CH k), t9.2.2.2 + 1) else sm_in G9 i d2 (k + 1) ((sm_cj G9 i k t9), t9.2)) := by rw [hI, sm_in, hG9]
              refine lv_iload_n hx hb dgX10_gather_24 rfl (lv_at hl 3 rfl) ?_
              refine lv_aload_n hx hb dgX10_gather_25 rfl (lv_at hl 0 rfl) ?_
              refine va_get (D := (dC, dI)) (ci := 13) (v := .int (nI cnt)) (C := RX10) (T := TX10) (N := 11) hx hb hts (fun _ h => List.mem_cons_of_mem _ (List.mem_append_left _ (List.mem_append_left _ (List.mem_append_right _ h)))) hown hK hP 0 rfl rfl 10 (by decide) (hts (.fieldLink RX10 59 "KnotHouse$Summit" "simpleCount" "I") (by decide +kernel)) (fun _ h9 => h9) rfl dgX10_gather_26 ?_
              refine lv_icmp_ge (tgt := 209) hx hb dgX10_gather_29 (by decide) (fun c9 => absurd c9 (nI_ge (a := k) (b := cnt) (by omega) (by omega))) (fun _ => ?_)
              refine lv_aload_n hx hb dgX10_gather_32 rfl (lv_at hl 0 rfl) ?_
              refine va_get (D := (dC, dI)) (ci := 13) (v := .int (nI t9.2.1.1)) (C := RX10) (T := TX10) (N := 11) hx hb hts (fun _ h => List.mem_cons_of_mem _ (List.mem_append_left _ (List.mem_append_left _ (List.mem_append_right _ h)))) hown hK hP 0 rfl rfl 3 (by decide) (hts (.fieldLink RX10 56 "KnotHouse$Summit" "size" "I") (by decide +kernel)) (fun _ h9 => h9) rfl dgX10_gather_33 ?_
              refine lv_sipush (v := 200) hx hb dgX10_gather_36 (by decide) ?_
              rcases Nat.lt_or_ge 200 t9.2.1.1 with h3 | h3
              · rw [if_pos h3] at hI
                refine lv_icmp_gt (tgt := 209) hx hb dgX10_gather_39 (by decide) (fun _ => ?_) (fun c9 => absurd (nI_lt (a := 200) (b := t9.2.1.1) h3 (by omega)) c9)
                exact K209 t9 hI hok9 H locs ls hP hD hS (lv_sub hl [0, 1] rfl)
              · rw [if_neg (Nat.not_lt.mpr h3)] at hI
                refine lv_icmp_gt (tgt := 209) hx hb dgX10_gather_39 (by decide) (fun c9 => absurd c9 (nI_nlt (a := 200) (b := t9.2.1.1) h3 (by omega))) (fun _ => ?_)
                refine lv_aload_n hx hb dgX10_gather_42 rfl (lv_at hl 0 rfl) ?_
                refine lv_iload_n hx hb dgX10_gather_43 rfl (lv_at hl 3 rfl) ?_
                refine lv_iload_n hx hb dgX10_gather_44 rfl (lv_at hl 2 rfl) ?_
                have hPc := hP.sub (ws' := [(aU, .inr (13, [.int (nI n), .int pw, .int (nI ln), .int (nI t9.2.1.1), .ref (ux 0), .ref (ux 1), .ref (ux 2), .ref (ux 3), .ref (ux 4), .ref (ux 5), .int (nI cnt)])), ((ux 4), .inl (cI, 24, .inl CH)), ((ux 5), .inl (cI, 24, .inl t9.2.2.1))]) [0, 6, 7] rfl
                refine va_calli (va_runV (As := [.int (nI k), .int (nI t9.2.2.2)]) (rest := []) ⟨hx, hb, hml, hown, hts⟩ (kg_X10_goesOn l dC dI cI cB cJ cZ aU ux n pw ln t9.2.1.1 cnt CH t9.2.2.1 k t9.2.2.2 (by omega) (by omega)) (cwV 2 hts gg_X10_gather_0 rfl rfl rfl (by decide +kernel) ⟨(Nat.le_of_ble_eq_true rfl), (Nat.le_of_ble_eq_true rfl)⟩) ⟨fun a U g mk q => by obtain ⟨q0, qP, qK⟩ := q; exact ⟨q0, qP, va_K.moved (u := U) (U := U.calling g mk a) (Vm.Alike.refl U.vm) qK⟩, va_recv hK hPc (ci := 13) (q0 := 0) rfl rfl, fun U hU hW => ⟨rfl, by rw [hU]; exact hPc, va_K.moved hW.alike hK⟩⟩ rfl rfl hl.1 rfl (lv_room (Nat.le_of_ble_eq_true rfl)) dgX10_gather_45 ⟨(Nat.le_of_ble_eq_true rfl), (Nat.le_of_ble_eq_true rfl)⟩) hS (fun q _ h => h.elim) (fun q h => h.elim) (fun rg9 un t H1 locs ht hvm hw9 hB hz1 hk1 hS => ?_)
                have hP := hP.kept (fun k9 x9 h9 => hk1 x9.1 ((hP k9 x9 h9).lt) id)
                generalize H1 = H at hP hS ⊢
                have hrg : rg9 = bI (sm_go t9.2.2.1 (CH k) t9.2.2.2 0) := hw9
                cases hgo : sm_go t9.2.2.1 (CH k) t9.2.2.2 0 with
                | true =>
                  rw [hgo] at hI hrg
                  have hI : IN = sm_in G9 i d2 (k + 1) t9 := hI
                  refine lv_if_eq (tgt := 54) hx hb dgX10_gather_48 (by decide) (fun c9 => absurd c9 (by rw [hrg]; decide)) (fun _ => ?_)
                  refine lv_goto (tgt := 203) hx hb dgX10_gather_51 (by decide) ?_
                  refine lv_iinc (v := nI (k + 1)) (lv' := [(3, .int (nI (k + 1))), (0, .ref aU), (1, .int (nI i)), (2, .int (nI t9.2.2.2))]) hx hb dgX10_gather_203 hl (k := 3) rfl (nI_1 k) (by decide) rfl (fun ls hl => ?_)
                  refine lv_goto (tgt := 24) hx hb dgX10_gather_206 (by decide) ?_
                  exact ih2 (k + 1) t9 (by omega) (by omega) hit hI hok9 H locs ls hP hD hS (lv_sub hl [1, 2, 3, 0] rfl)
                | false =>
                  rw [hgo, if_neg (by decide)] at hI
                  rw [hgo] at hrg
                  refine lv_if_eq (tgt := 54) hx hb dgX10_gather_48 (by decide) (fun _ => ?_) (fun c9 => absurd (hrg) c9)
                  refine lv_aload_n hx hb dgX10_gather_54 rfl (lv_at hl 0 rfl) ?_
                  refine va_get (D := (dC, dI)) (ci := 13) (v := .ref (ux 2)) (C := RX10) (T := TX10) (N := 11) hx hb hts (fun _ h => List.mem_cons_of_mem _ (List.mem_append_left _ (List.mem_append_left _ (List.mem_append_right _ h)))) hown hK hP 0 rfl rfl 6 (by decide) (hts (.fieldLink RX10 21 "KnotHouse$Summit" "work" "LKnotHouse$Form;") (by decide +kernel)) (fun _ h9 => h9) rfl dgX10_gather_55 ?_
                  refine lv_aload_n hx hb dgX10_gather_58 rfl (lv_at hl 0 rfl) ?_
                  refine va_get (D := (dC, dI)) (ci := 13) (v := .int pw) (C := RX10) (T := TX10) (N := 11) hx hb hts (fun _ h => List.mem_cons_of_mem _ (List.mem_append_left _ (List.mem_append_left _ (List.mem_append_right _ h)))) hown hK hP 0 rfl rfl 1 (by decide) (hts (.fieldLink RX10 87 "KnotHouse$Summit" "power" "I") (by decide +kernel)) (fun _ h9 => h9) rfl dgX10_gather_59 ?_
                  refine va_put (D := (dC, dI)) (ci := 8) (v := .int pw) (ty := .int) (C := RX5) (T := TX5) (N := 6) hx hb hts (fun _ h => List.mem_cons_of_mem _ (List.mem_append_left _ (List.mem_append_right _ h))) tyX5 tyX5_ok nmX5 hown hK hP hD hS 3 rfl rfl 1 (by decide) (hts (.fieldLink RX10 75 "KnotHouse$Form" "power" "I") (by decide +kernel)) (fun _ h9 => h9) rfl (by decide +kernel) rfl rfl (Nat.le_of_ble_eq_true rfl) dgX10_gather_62 (fun H locs hP hD hS => ?_)
                  have hP : va_P (dC, dI) vwCl [(aU, .inr (13, [.int (nI n), .int pw, .int (nI ln), .int (nI t9.2.1.1), .ref (ux 0), .ref (ux 1), .ref (ux 2), .ref (ux 3), .ref (ux 4), .ref (ux 5), .int (nI cnt)])), ((ux 0), .inl (cI, 4020, .inl t9.2.1.2.1)), ((ux 1), .inl (cI, 201, .inl (ow_nI t9.2.1.2.2))), ((ux 2), .inr (8, [.int (nI n), .int pw, .int (nI t9.1.2.1), .ref fc, .int idn, .int den])), (fc, .inl (cI, 24, .inl t9.1.2.2)), ((ux 3), .inl (cI, 24, .inl SI)), ((ux 4), .inl (cI, 24, .inl CH)), ((ux 5), .inl (cI, 24, .inl t9.2.2.1))] H := hP
                  have hD : va_D A [(aU, .inr (13, [.int (nI n), .int pw, .int (nI ln), .int (nI t9.2.1.1), .ref (ux 0), .ref (ux 1), .ref (ux 2), .ref (ux 3), .ref (ux 4), .ref (ux 5), .int (nI cnt)])), ((ux 0), .inl (cI, 4020, .inl t9.2.1.2.1)), ((ux 1), .inl (cI, 201, .inl (ow_nI t9.2.1.2.2))), ((ux 2), .inr (8, [.int (nI n), .int pw, .int (nI t9.1.2.1), .ref fc, .int idn, .int den])), (fc, .inl (cI, 24, .inl t9.1.2.2)), ((ux 3), .inl (cI, 24, .inl SI)), ((ux 4), .inl (cI, 24, .inl CH)), ((ux 5), .inl (cI, 24, .inl t9.2.2.1))] := hD
                  refine lv_aload_n hx hb dgX10_gather_65 rfl (lv_at hl 0 rfl) ?_
                  refine va_get (D := (dC, dI)) (ci := 13) (v := .ref (ux 2)) (C := RX10) (T := TX10) (N := 11) hx hb hts (fun _ h => List.mem_cons_of_mem _ (List.mem_append_left _ (List.mem_append_left _ (List.mem_append_right _ h)))) hown hK hP 0 rfl rfl 6 (by decide) (hts (.fieldLink RX10 21 "KnotHouse$Summit" "work" "LKnotHouse$Form;") (by decide +kernel)) (fun _ h9 => h9) rfl dgX10_gather_66 ?_
                  refine lv_aload_n hx hb dgX10_gather_69 rfl (lv_at hl 0 rfl) ?_
                  refine va_get (D := (dC, dI)) (ci := 13) (v := .int (nI ln)) (C := RX10) (T := TX10) (N := 11) hx hb hts (fun _ h => List.mem_cons_of_mem _ (List.mem_append_left _ (List.mem_append_left _ (List.mem_append_right _ h)))) hown hK hP 0 rfl rfl 2 (by decide) (hts (.fieldLink RX10 88 "KnotHouse$Summit" "length" "I") (by decide +kernel)) (fun _ h9 => h9) rfl dgX10_gather_70 ?_
                  refine va_put (D := (dC, dI)) (ci := 8) (v := .int (nI ln)) (ty := .int) (C := RX5) (T := TX5) (N := 6) hx hb hts (fun _ h => List.mem_cons_of_mem _ (List.mem_append_left _ (List.mem_append_right _ h))) tyX5 tyX5_ok nmX5 hown hK hP hD hS 3 rfl rfl 2 (by decide) (hts (.fieldLink RX10 81 "KnotHouse$Form" "length" "I") (by decide +kernel)) (fun _ h9 => h9) rfl (by decide +kernel) rfl rfl (Nat.le_of_ble_eq_true rfl) dgX10_gather_73 (fun H locs hP hD hS => ?_)
                  have hP : va_P (dC, dI) vwCl [(aU, .inr (13, [.int (nI n), .int pw, .int (nI ln), .int (nI t9.2.1.1), .ref (ux 0), .ref (ux 1), .ref (ux 2), .ref (ux 3), .ref (ux 4), .ref (ux 5), .int (nI cnt)])), ((ux 0), .inl (cI, 4020, .inl t9.2.1.2.1)), ((ux 1), .inl (cI, 201, .inl (ow_nI t9.2.1.2.2))), ((ux 2), .inr (8, [.int (nI n), .int pw, .int (nI ln), .ref fc, .int idn, .int den])), (fc, .inl (cI, 24, .inl t9.1.2.2)), ((ux 3), .inl (cI, 24, .inl SI)), ((ux 4), .inl (cI, 24, .inl CH)), ((ux 5), .inl (cI, 24, .inl t9.2.2.1))] H := hP
                  have hD : va_D A [(aU, .inr (13, [.int (nI n), .int pw, .int (nI ln), .int (nI t9.2.1.1), .ref (ux 0), .ref (ux 1), .ref (ux 2), .ref (ux 3), .ref (ux 4), .ref (ux 5), .int (nI cnt)])), ((ux 0), .inl (cI, 4020, .inl t9.2.1.2.1)), ((ux 1), .inl (cI, 201, .inl (ow_nI t9.2.1.2.2))), ((ux 2), .inr (8, [.int (nI n), .int pw, .int (nI ln), .ref fc, .int idn, .int den])), (fc, .inl (cI, 24, .inl t9.1.2.2)), ((ux 3), .inl (cI, 24, .inl SI)), ((ux 4), .inl (cI, 24, .inl CH)), ((ux 5), .inl (cI, 24, .inl t9.2.2.1))] := hD
                  refine lv_aload_n hx hb dgX10_gather_76 rfl (lv_at hl 0 rfl) ?_
                  refine va_get (D := (dC, dI)) (ci := 13) (v := .ref (ux 0)) (C := RX10) (T := TX10) (N := 11) hx hb hts (fun _ h => List.mem_cons_of_mem _ (List.mem_append_left _ (List.mem_append_left _ (List.mem_append_right _ h)))) hown hK hP 0 rfl rfl 4 (by decide) (hts (.fieldLink RX10 11 "KnotHouse$Summit" "rows" "[I") (by decide +kernel)) (fun _ h9 => h9) rfl dgX10_gather_77 ?_
                  refine lv_iload_n hx hb dgX10_gather_80 rfl (lv_at hl 1 rfl) ?_
                  refine lv_bipush (v := 20) hx hb dgX10_gather_81 (by decide) ?_
                  refine lv_imul hx hb dgX10_gather_83 ?_
                  refine ow_topi (y := nI (20 * i)) (by rw [Nat.mul_comm]; exact pk_mul _ 20) ?_
                  refine lv_aload_n hx hb dgX10_gather_84 rfl (lv_at hl 0 rfl) ?_
                  refine va_get (D := (dC, dI)) (ci := 13) (v := .ref (ux 2)) (C := RX10) (T := TX10) (N := 11) hx hb hts (fun _ h => List.mem_cons_of_mem _ (List.mem_append_left _ (List.mem_append_left _ (List.mem_append_right _ h)))) hown hK hP 0 rfl rfl 6 (by decide) (hts (.fieldLink RX10 21 "KnotHouse$Summit" "work" "LKnotHouse$Form;") (by decide +kernel)) (fun _ h9 => h9) rfl dgX10_gather_85 ?_
                  refine va_get (D := (dC, dI)) (ci := 8) (v := .ref fc) (C := RX5) (T := TX5) (N := 6) hx hb hts (fun _ h => List.mem_cons_of_mem _ (List.mem_append_left _ (List.mem_append_right _ h))) hown hK hP 3 rfl rfl 3 (by decide) (hts (.fieldLink RX10 96 "KnotHouse$Form" "factors" "[I") (by decide +kernel)) (fun _ h9 => h9) rfl dgX10_gather_88 ?_
                  refine lv_iconst (v := 0) hx hb dgX10_gather_91 (by decide) ?_
                  refine ow_topi (y := nI 0) (by decide) ?_
                  refine lv_aload_n hx hb dgX10_gather_92 rfl (lv_at hl 0 rfl) ?_
                  refine va_get (D := (dC, dI)) (ci := 13) (v := .int (nI ln)) (C := RX10) (T := TX10) (N := 11) hx hb hts (fun _ h => List.mem_cons_of_mem _ (List.mem_append_left _ (List.mem_append_left _ (List.mem_append_right _ h)))) hown hK hP 0 rfl rfl 2 (by decide) (hts (.fieldLink RX10 88 "KnotHouse$Summit" "length" "I") (by decide +kernel)) (fun _ h9 => h9) rfl dgX10_gather_93 ?_
                  refine ow_cpyi (sp := 20 * i) (dp := 0) (n := ln) hx hb (by rw [hml]; exact hl.1.symm) hown (hts (.methodLink RX10 99 arraycopyName) (by decide +kernel)) (hts (.native arraycopyName) (by decide +kernel)) (hts (.static arraycopyName) (by decide +kernel)) (hts (.initialized "java/lang/System") (by decide +kernel)) hK hP hD hS 1 4 0 0 rfl rfl rfl rfl (by omega) (by omega) (by decide) (by decide) (Nat.le_of_ble_eq_true rfl) (by decide) dgX10_gather_96 (fun H locs hP hD hS => ?_)
                  have hP : va_P (dC, dI) vwCl [(aU, .inr (13, [.int (nI n), .int pw, .int (nI ln), .int (nI t9.2.1.1), .ref (ux 0), .ref (ux 1), .ref (ux 2), .ref (ux 3), .ref (ux 4), .ref (ux 5), .int (nI cnt)])), ((ux 0), .inl (cI, 4020, .inl t9.2.1.2.1)), ((ux 1), .inl (cI, 201, .inl (ow_nI t9.2.1.2.2))), ((ux 2), .inr (8, [.int (nI n), .int pw, .int (nI ln), .ref fc, .int idn, .int den])), (fc, .inl (cI, 24, .inl (va_cpy t9.2.1.2.1 t9.1.2.2 (20 * i) 0 ln))), ((ux 3), .inl (cI, 24, .inl SI)), ((ux 4), .inl (cI, 24, .inl CH)), ((ux 5), .inl (cI, 24, .inl t9.2.2.1))] H := hP
                  have hD : va_D A [(aU, .inr (13, [.int (nI n), .int pw, .int (nI ln), .int (nI t9.2.1.1), .ref (ux 0), .ref (ux 1), .ref (ux 2), .ref (ux 3), .ref (ux 4), .ref (ux 5), .int (nI cnt)])), ((ux 0), .inl (cI, 4020, .inl t9.2.1.2.1)), ((ux 1), .inl (cI, 201, .inl (ow_nI t9.2.1.2.2))), ((ux 2), .inr (8, [.int (nI n), .int pw, .int (nI ln), .ref fc, .int idn, .int den])), (fc, .inl (cI, 24, .inl (va_cpy t9.2.1.2.1 t9.1.2.2 (20 * i) 0 ln))), ((ux 3), .inl (cI, 24, .inl SI)), ((ux 4), .inl (cI, 24, .inl CH)), ((ux 5), .inl (cI, 24, .inl t9.2.2.1))] := hD
                  refine lv_aload_n hx hb dgX10_gather_99 rfl (lv_at hl 0 rfl) ?_
                  refine va_get (D := (dC, dI)) (ci := 13) (v := .ref (ux 2)) (C := RX10) (T := TX10) (N := 11) hx hb hts (fun _ h => List.mem_cons_of_mem _ (List.mem_append_left _ (List.mem_append_left _ (List.mem_append_right _ h)))) hown hK hP 0 rfl rfl 6 (by decide) (hts (.fieldLink RX10 21 "KnotHouse$Summit" "work" "LKnotHouse$Form;") (by decide +kernel)) (fun _ h9 => h9) rfl dgX10_gather_100 ?_
                  refine lv_aload_n hx hb dgX10_gather_103 rfl (lv_at hl 0 rfl) ?_
                  refine va_get (D := (dC, dI)) (ci := 13) (v := .ref (ux 3)) (C := RX10) (T := TX10) (N := 11) hx hb hts (fun _ h => List.mem_cons_of_mem _ (List.mem_append_left _ (List.mem_append_left _ (List.mem_append_right _ h)))) hown hK hP 0 rfl rfl 7 (by decide) (hts (.fieldLink RX10 25 "KnotHouse$Summit" "simples" "[I") (by decide +kernel)) (fun _ h9 => h9) rfl dgX10_gather_104 ?_
                  refine lv_iload_n hx hb dgX10_gather_107 rfl (lv_at hl 3 rfl) ?_
                  refine va_iald hx hb hK hP 5 0 rfl rfl (vp_in_nI (n := k) (N := 24) (by omega) (by decide)) dgX10_gather_108 ?_
                  refine ow_topi (y := SI k) (congrArg SI (nI_clamp (n := k) (Nat.lt_trans (m := 24) (by omega) (by decide)))) ?_
                  have hPc := hP.sub (ws' := [((ux 2), .inr (8, [.int (nI n), .int pw, .int (nI ln), .ref fc, .int idn, .int den])), (fc, .inl (cI, 24, .inl (va_cpy t9.2.1.2.1 t9.1.2.2 (20 * i) 0 ln)))]) [3, 4] rfl
                  have hDc := hD.sub (ws' := [((ux 2), .inr (8, [.int (nI n), .int pw, .int (nI ln), .ref fc, .int idn, .int den])), (fc, .inl (cI, 24, .inl (va_cpy t9.2.1.2.1 t9.1.2.2 (20 * i) 0 ln)))]) [3, 4] (by decide) rfl
                  have hFc := va_free (wc := [((ux 2), .inr (8, [.int (nI n), .int pw, .int (nI ln), .ref fc, .int idn, .int den])), (fc, .inl (cI, 24, .inl (va_cpy t9.2.1.2.1 t9.1.2.2 (20 * i) 0 ln)))]) hD hS hA [3, 4] rfl
                  refine va_callv (va_runV (As := [.int (SI k)]) (rest := []) ⟨hx, hb, hml, hown, hts⟩ (kg_X5_conjugateBy l dC dI cI cB cJ cZ (ux 2) fc n hn1 hn9 idn den (pw, ln, va_cpy t9.2.1.2.1 t9.1.2.2 (20 * i) 0 ln) hln (SI k) H.size) (cwV 1 hts gg_X10_gather_1 rfl rfl rfl (by decide +kernel) ⟨(Nat.le_of_ble_eq_true rfl), (Nat.le_of_ble_eq_true rfl)⟩) ⟨fun a U g mk q => by obtain ⟨q0, q1, qP, qK, qD⟩ := q; exact ⟨q0, q1, qP, va_K.moved (u := U) (U := U.calling g mk a) (Vm.Alike.refl U.vm) qK, qD⟩, va_recv hK hPc (ci := 8) (q0 := 0) rfl rfl, fun U hU hW => ⟨rfl, by rw [hU], by rw [hU]; exact hPc, va_K.moved hW.alike hK, hDc.weaken (fun _ _ _ _ => trivial)⟩⟩ rfl rfl hl.1 rfl (lv_room (Nat.le_of_ble_eq_true rfl)) dgX10_gather_109 ⟨(Nat.le_of_ble_eq_true rfl), (Nat.le_of_ble_eq_true rfl)⟩) hS (fun q _ h => hFc q h) hFc (fun u9 t H1 locs ht hvm hw hB hz1 hk1 hS => ?_)
                  obtain ⟨hP1, hD1⟩ := hB
                  rw [ht] at hP1
                  obtain ⟨hP, hD⟩ := va_join (wr := [(aU, .inr (13, [.int (nI n), .int pw, .int (nI ln), .int (nI t9.2.1.1), .ref (ux 0), .ref (ux 1), .ref (ux 2), .ref (ux 3), .ref (ux 4), .ref (ux 5), .int (nI cnt)])), ((ux 0), .inl (cI, 4020, .inl t9.2.1.2.1)), ((ux 1), .inl (cI, 201, .inl (ow_nI t9.2.1.2.2))), ((ux 3), .inl (cI, 24, .inl SI)), ((ux 4), .inl (cI, 24, .inl CH)), ((ux 5), .inl (cI, 24, .inl t9.2.2.1))]) (w1 := [((ux 2), .inr (8, [.int (nI n), .int (f5_co n idn den (pw, ln, va_cpy t9.2.1.2.1 t9.1.2.2 (20 * i) 0 ln) (SI k)).1, .int (nI ((f5_co n idn den (pw, ln, va_cpy t9.2.1.2.1 t9.1.2.2 (20 * i) 0 ln) (SI k)).2.1)), .ref fc, .int idn, .int den])), (fc, .inl (cI, 24, .inl ((f5_co n idn den (pw, ln, va_cpy t9.2.1.2.1 t9.1.2.2 (20 * i) 0 ln) (SI k)).2.2)))]) hP hD [3, 4] [0, 1, 2, 5, 6, 7] rfl rfl (by decide) (by decide) hk1 hFc hP1 hD1
                  generalize H1 = H at hP hS ⊢
                  have hP : va_P (dC, dI) vwCl [(aU, .inr (13, [.int (nI n), .int pw, .int (nI ln), .int (nI t9.2.1.1), .ref (ux 0), .ref (ux 1), .ref (ux 2), .ref (ux 3), .ref (ux 4), .ref (ux 5), .int (nI cnt)])), ((ux 0), .inl (cI, 4020, .inl t9.2.1.2.1)), ((ux 1), .inl (cI, 201, .inl (ow_nI t9.2.1.2.2))), ((ux 3), .inl (cI, 24, .inl SI)), ((ux 4), .inl (cI, 24, .inl CH)), ((ux 5), .inl (cI, 24, .inl t9.2.2.1)), ((ux 2), .inr (8, [.int (nI n), .int (f5_co n idn den (pw, ln, va_cpy t9.2.1.2.1 t9.1.2.2 (20 * i) 0 ln) (SI k)).1, .int (nI ((f5_co n idn den (pw, ln, va_cpy t9.2.1.2.1 t9.1.2.2 (20 * i) 0 ln) (SI k)).2.1)), .ref fc, .int idn, .int den])), (fc, .inl (cI, 24, .inl ((f5_co n idn den (pw, ln, va_cpy t9.2.1.2.1 t9.1.2.2 (20 * i) 0 ln) (SI k)).2.2)))] H := hP
                  have hD : va_D A [(aU, .inr (13, [.int (nI n), .int pw, .int (nI ln), .int (nI t9.2.1.1), .ref (ux 0), .ref (ux 1), .ref (ux 2), .ref (ux 3), .ref (ux 4), .ref (ux 5), .int (nI cnt)])), ((ux 0), .inl (cI, 4020, .inl t9.2.1.2.1)), ((ux 1), .inl (cI, 201, .inl (ow_nI t9.2.1.2.2))), ((ux 3), .inl (cI, 24, .inl SI)), ((ux 4), .inl (cI, 24, .inl CH)), ((ux 5), .inl (cI, 24, .inl t9.2.2.1)), ((ux 2), .inr (8, [.int (nI n), .int (f5_co n idn den (pw, ln, va_cpy t9.2.1.2.1 t9.1.2.2 (20 * i) 0 ln) (SI k)).1, .int (nI ((f5_co n idn den (pw, ln, va_cpy t9.2.1.2.1 t9.1.2.2 (20 * i) 0 ln) (SI k)).2.1)), .ref fc, .int idn, .int den])), (fc, .inl (cI, 24, .inl ((f5_co n idn den (pw, ln, va_cpy t9.2.1.2.1 t9.1.2.2 (20 * i) 0 ln) (SI k)).2.2)))] := hD
                  have hP := hP.sub (ws' := [(aU, .inr (13, [.int (nI n), .int pw, .int (nI ln), .int (nI t9.2.1.1), .ref (ux 0), .ref (ux 1), .ref (ux 2), .ref (ux 3), .ref (ux 4), .ref (ux 5), .int (nI cnt)])), ((ux 0), .inl (cI, 4020, .inl t9.2.1.2.1)), ((ux 1), .inl (cI, 201, .inl (ow_nI t9.2.1.2.2))), ((ux 2), .inr (8, [.int (nI n), .int (f5_co n idn den (pw, ln, va_cpy t9.2.1.2.1 t9.1.2.2 (20 * i) 0 ln) (SI k)).1, .int (nI ((f5_co n idn den (pw, ln, va_cpy t9.2.1.2.1 t9.1.2.2 (20 * i) 0 ln) (SI k)).2.1)), .ref fc, .int idn, .int den])), (fc, .inl (cI, 24, .inl ((f5_co n idn den (pw, ln, va_cpy t9.2.1.2.1 t9.1.2.2 (20 * i) 0 ln) (SI k)).2.2))), ((ux 3), .inl (cI, 24, .inl SI)), ((ux 4), .inl (cI, 24, .inl CH)), ((ux 5), .inl (cI, 24, .inl t9.2.2.1))]) [0, 1, 2, 6, 7, 3, 4, 5] rfl
                  have hD := hD.sub (ws' := [(aU, .inr (13, [.int (nI n), .int pw, .int (nI ln), .int (nI t9.2.1.1), .ref (ux 0), .ref (ux 1), .ref (ux 2), .ref (ux 3), .ref (ux 4), .ref (ux 5), .int (nI cnt)])), ((ux 0), .inl (cI, 4020, .inl t9.2.1.2.1)), ((ux 1), .inl (cI, 201, .inl (ow_nI t9.2.1.2.2))), ((ux 2), .inr (8, [.int (nI n), .int (f5_co n idn den (pw, ln, va_cpy t9.2.1.2.1 t9.1.2.2 (20 * i) 0 ln) (SI k)).1, .int (nI ((f5_co n idn den (pw, ln, va_cpy t9.2.1.2.1 t9.1.2.2 (20 * i) 0 ln) (SI k)).2.1)), .ref fc, .int idn, .int den])), (fc, .inl (cI, 24, .inl ((f5_co n idn den (pw, ln, va_cpy t9.2.1.2.1 t9.1.2.2 (20 * i) 0 ln) (SI k)).2.2))), ((ux 3), .inl (cI, 24, .inl SI)), ((ux 4), .inl (cI, 24, .inl CH)), ((ux 5), .inl (cI, 24, .inl t9.2.2.1))]) [0, 1, 2, 6, 7, 3, 4, 5] (by decide) rfl
                  have hCJ : (f5_co n idn den (pw, ln, va_cpy t9.2.1.2.1 t9.1.2.2 (20 * i) 0 ln) (SI k)) = (sm_cj G9 i k t9) := by rw [sm_cj, sm_wk, hG9]
                  rw [hCJ] at hP hD
                  have hcl : (sm_cj G9 i k t9).2.1 ≤ 24 := by rw [← hCJ]; exact f5_co_le hln
                  generalize hCe : (sm_cj G9 i k t9) = w9 at hP hD hI hcl
                  have hP : va_P (dC, dI) vwCl [(aU, .inr (13, [.int (nI n), .int pw, .int (nI ln), .int (nI t9.2.1.1), .ref (ux 0), .ref (ux 1), .ref (ux 2), .ref (ux 3), .ref (ux 4), .ref (ux 5), .int (nI cnt)])), ((ux 0), .inl (cI, 4020, .inl t9.2.1.2.1)), ((ux 1), .inl (cI, 201, .inl (ow_nI t9.2.1.2.2))), ((ux 2), .inr (8, [.int (nI n), .int w9.1, .int (nI w9.2.1), .ref fc, .int idn, .int den])), (fc, .inl (cI, 24, .inl w9.2.2)), ((ux 3), .inl (cI, 24, .inl SI)), ((ux 4), .inl (cI, 24, .inl CH)), ((ux 5), .inl (cI, 24, .inl t9.2.2.1))] H := hP
                  have hD : va_D A [(aU, .inr (13, [.int (nI n), .int pw, .int (nI ln), .int (nI t9.2.1.1), .ref (ux 0), .ref (ux 1), .ref (ux 2), .ref (ux 3), .ref (ux 4), .ref (ux 5), .int (nI cnt)])), ((ux 0), .inl (cI, 4020, .inl t9.2.1.2.1)), ((ux 1), .inl (cI, 201, .inl (ow_nI t9.2.1.2.2))), ((ux 2), .inr (8, [.int (nI n), .int w9.1, .int (nI w9.2.1), .ref fc, .int idn, .int den])), (fc, .inl (cI, 24, .inl w9.2.2)), ((ux 3), .inl (cI, 24, .inl SI)), ((ux 4), .inl (cI, 24, .inl CH)), ((ux 5), .inl (cI, 24, .inl t9.2.2.1))] := hD
                  refine lv_aload_n hx hb dgX10_gather_112 rfl (lv_at hl 0 rfl) ?_
                  refine va_get (D := (dC, dI)) (ci := 13) (v := .ref (ux 2)) (C := RX10) (T := TX10) (N := 11) hx hb hts (fun _ h => List.mem_cons_of_mem _ (List.mem_append_left _ (List.mem_append_left _ (List.mem_append_right _ h)))) hown hK hP 0 rfl rfl 6 (by decide) (hts (.fieldLink RX10 21 "KnotHouse$Summit" "work" "LKnotHouse$Form;") (by decide +kernel)) (fun _ h9 => h9) rfl dgX10_gather_113 ?_
                  refine va_get (D := (dC, dI)) (ci := 8) (v := .int w9.1) (C := RX5) (T := TX5) (N := 6) hx hb hts (fun _ h => List.mem_cons_of_mem _ (List.mem_append_left _ (List.mem_append_right _ h))) hown hK hP 3 rfl rfl 1 (by decide) (hts (.fieldLink RX10 75 "KnotHouse$Form" "power" "I") (by decide +kernel)) (fun _ h9 => h9) rfl dgX10_gather_116 ?_
                  refine lv_aload_n hx hb dgX10_gather_119 rfl (lv_at hl 0 rfl) ?_
                  refine va_get (D := (dC, dI)) (ci := 13) (v := .int pw) (C := RX10) (T := TX10) (N := 11) hx hb hts (fun _ h => List.mem_cons_of_mem _ (List.mem_append_left _ (List.mem_append_left _ (List.mem_append_right _ h)))) hown hK hP 0 rfl rfl 1 (by decide) (hts (.fieldLink RX10 87 "KnotHouse$Summit" "power" "I") (by decide +kernel)) (fun _ h9 => h9) rfl dgX10_gather_120 ?_
                  rcases Decidable.em (pw < w9.1) with b1 | b1
                  · rw [if_pos (Or.inl b1)] at hI
                    rw [hI] at hQ
                    have hQ : RES = (false, (w9, t9.2.1, t9.2.2.1)) := hQ
                    refine lv_icmp_gt (tgt := 154) hx hb dgX10_gather_123 (by decide) (fun _ => ?_) (fun c9 => absurd (b1) c9)
                    refine lv_iconst (v := 0) hx hb dgX10_gather_154 (by decide) ?_
                    have hP : va_P (dC, dI) vwCl [(aU, .inr (13, [.int (nI n), .int pw, .int (nI ln), .int (nI ((sm_ou ((n, idn, den, pw, ln, SI, CH, cnt) : ow_GC) 202 0 (q, M, ST)).2.2.1.1)), .ref (ux 0), .ref (ux 1), .ref (ux 2), .ref (ux 3), .ref (ux 4), .ref (ux 5), .int (nI cnt)])), ((ux 0), .inl (cI, 4020, .inl ((sm_ou ((n, idn, den, pw, ln, SI, CH, cnt) : ow_GC) 202 0 (q, M, ST)).2.2.1.2.1))), ((ux 1), .inl (cI, 201, .inl (ow_nI (sm_ou ((n, idn, den, pw, ln, SI, CH, cnt) : ow_GC) 202 0 (q, M, ST)).2.2.1.2.2))), ((ux 2), .inr (8, [.int (nI n), .int (sm_ou ((n, idn, den, pw, ln, SI, CH, cnt) : ow_GC) 202 0 (q, M, ST)).2.1.1, .int (nI ((sm_ou ((n, idn, den, pw, ln, SI, CH, cnt) : ow_GC) 202 0 (q, M, ST)).2.1.2.1)), .ref fc, .int idn, .int den])), (fc, .inl (cI, 24, .inl ((sm_ou ((n, idn, den, pw, ln, SI, CH, cnt) : ow_GC) 202 0 (q, M, ST)).2.1.2.2))), ((ux 3), .inl (cI, 24, .inl SI)), ((ux 4), .inl (cI, 24, .inl CH)), ((ux 5), .inl (cI, 24, .inl ((sm_ou ((n, idn, den, pw, ln, SI, CH, cnt) : ow_GC) 202 0 (q, M, ST)).2.2.2)))] H := by rw [hRE, hQ]; exact hP
                    have hD : va_D A [(aU, .inr (13, [.int (nI n), .int pw, .int (nI ln), .int (nI ((sm_ou ((n, idn, den, pw, ln, SI, CH, cnt) : ow_GC) 202 0 (q, M, ST)).2.2.1.1)), .ref (ux 0), .ref (ux 1), .ref (ux 2), .ref (ux 3), .ref (ux 4), .ref (ux 5), .int (nI cnt)])), ((ux 0), .inl (cI, 4020, .inl ((sm_ou ((n, idn, den, pw, ln, SI, CH, cnt) : ow_GC) 202 0 (q, M, ST)).2.2.1.2.1))), ((ux 1), .inl (cI, 201, .inl (ow_nI (sm_ou ((n, idn, den, pw, ln, SI, CH, cnt) : ow_GC) 202 0 (q, M, ST)).2.2.1.2.2))), ((ux 2), .inr (8, [.int (nI n), .int (sm_ou ((n, idn, den, pw, ln, SI, CH, cnt) : ow_GC) 202 0 (q, M, ST)).2.1.1, .int (nI ((sm_ou ((n, idn, den, pw, ln, SI, CH, cnt) : ow_GC) 202 0 (q, M, ST)).2.1.2.1)), .ref fc, .int idn, .int den])), (fc, .inl (cI, 24, .inl ((sm_ou ((n, idn, den, pw, ln, SI, CH, cnt) : ow_GC) 202 0 (q, M, ST)).2.1.2.2))), ((ux 3), .inl (cI, 24, .inl SI)), ((ux 4), .inl (cI, 24, .inl CH)), ((ux 5), .inl (cI, 24, .inl ((sm_ou ((n, idn, den, pw, ln, SI, CH, cnt) : ow_GC) 202 0 (q, M, ST)).2.2.2)))] := by rw [hRE, hQ]; exact hD
                    rw [hQQ]
                    exact W.zret (v := 0) (ty := .boolean) hx hb hr rfl (fun t ht hW => ⟨⟨0, (), rfl, by rw [hRE, hQ]; rfl, by rw [ht]; exact hP, hD⟩, hS.F ht⟩) hS.2.2 dgX10_gather_155
                  · refine lv_icmp_gt (tgt := 154) hx hb dgX10_gather_123 (by decide) (fun c9 => absurd c9 (b1)) (fun _ => ?_)
                    refine lv_aload_n hx hb dgX10_gather_126 rfl (lv_at hl 0 rfl) ?_
                    refine va_get (D := (dC, dI)) (ci := 13) (v := .ref (ux 2)) (C := RX10) (T := TX10) (N := 11) hx hb hts (fun _ h => List.mem_cons_of_mem _ (List.mem_append_left _ (List.mem_append_left _ (List.mem_append_right _ h)))) hown hK hP 0 rfl rfl 6 (by decide) (hts (.fieldLink RX10 21 "KnotHouse$Summit" "work" "LKnotHouse$Form;") (by decide +kernel)) (fun _ h9 => h9) rfl dgX10_gather_127 ?_
                    refine va_get (D := (dC, dI)) (ci := 8) (v := .int w9.1) (C := RX5) (T := TX5) (N := 6) hx hb hts (fun _ h => List.mem_cons_of_mem _ (List.mem_append_left _ (List.mem_append_right _ h))) hown hK hP 3 rfl rfl 1 (by decide) (hts (.fieldLink RX10 75 "KnotHouse$Form" "power" "I") (by decide +kernel)) (fun _ h9 => h9) rfl dgX10_gather_130 ?_
                    refine lv_aload_n hx hb dgX10_gather_133 rfl (lv_at hl 0 rfl) ?_
                    refine va_get (D := (dC, dI)) (ci := 13) (v := .int pw) (C := RX10) (T := TX10) (N := 11) hx hb hts (fun _ h => List.mem_cons_of_mem _ (List.mem_append_left _ (List.mem_append_left _ (List.mem_append_right _ h)))) hown hK hP 0 rfl rfl 1 (by decide) (hts (.fieldLink RX10 87 "KnotHouse$Summit" "power" "I") (by decide +kernel)) (fun _ h9 => h9) rfl dgX10_gather_134 ?_
                    rcases Decidable.em (w9.1 = pw) with b2 | b2
                    · refine lv_icmp_ne (tgt := 156) hx hb dgX10_gather_137 (by decide) (fun c9 => absurd c9 (not_not_intro b2)) (fun _ => ?_)
                      refine lv_aload_n hx hb dgX10_gather_140 rfl (lv_at hl 0 rfl) ?_
                      refine va_get (D := (dC, dI)) (ci := 13) (v := .ref (ux 2)) (C := RX10) (T := TX10) (N := 11) hx hb hts (fun _ h => List.mem_cons_of_mem _ (List.mem_append_left _ (List.mem_append_left _ (List.mem_append_right _ h)))) hown hK hP 0 rfl rfl 6 (by decide) (hts (.fieldLink RX10 21 "KnotHouse$Summit" "work" "LKnotHouse$Form;") (by decide +kernel)) (fun _ h9 => h9) rfl dgX10_gather_141 ?_
                      refine va_get (D := (dC, dI)) (ci := 8) (v := .int (nI w9.2.1)) (C := RX5) (T := TX5) (N := 6) hx hb hts (fun _ h => List.mem_cons_of_mem _ (List.mem_append_left _ (List.mem_append_right _ h))) hown hK hP 3 rfl rfl 2 (by decide) (hts (.fieldLink RX10 81 "KnotHouse$Form" "length" "I") (by decide +kernel)) (fun _ h9 => h9) rfl dgX10_gather_144 ?_
                      refine lv_aload_n hx hb dgX10_gather_147 rfl (lv_at hl 0 rfl) ?_
                      refine va_get (D := (dC, dI)) (ci := 13) (v := .int (nI ln)) (C := RX10) (T := TX10) (N := 11) hx hb hts (fun _ h => List.mem_cons_of_mem _ (List.mem_append_left _ (List.mem_append_left _ (List.mem_append_right _ h)))) hown hK hP 0 rfl rfl 2 (by decide) (hts (.fieldLink RX10 88 "KnotHouse$Summit" "length" "I") (by decide +kernel)) (fun _ h9 => h9) rfl dgX10_gather_148 ?_
                      rcases Nat.lt_or_ge w9.2.1 ln with b3 | b3
                      · rw [if_pos (Or.inr ⟨b2, b3⟩)] at hI
                        rw [hI] at hQ
                        have hQ : RES = (false, (w9, t9.2.1, t9.2.2.1)) := hQ
                        refine lv_icmp_ge (tgt := 156) hx hb dgX10_gather_151 (by decide) (fun c9 => absurd c9 (nI_ge (a := w9.2.1) (b := ln) b3 (by omega))) (fun _ => ?_)
                        refine lv_iconst (v := 0) hx hb dgX10_gather_154 (by decide) ?_
                        have hP : va_P (dC, dI) vwCl [(aU, .inr (13, [.int (nI n), .int pw, .int (nI ln), .int (nI ((sm_ou ((n, idn, den, pw, ln, SI, CH, cnt) : ow_GC) 202 0 (q, M, ST)).2.2.1.1)), .ref (ux 0), .ref (ux 1), .ref (ux 2), .ref (ux 3), .ref (ux 4), .ref (ux 5), .int (nI cnt)])), ((ux 0), .inl (cI, 4020, .inl ((sm_ou ((n, idn, den, pw, ln, SI, CH, cnt) : ow_GC) 202 0 (q, M, ST)).2.2.1.2.1))), ((ux 1), .inl (cI, 201, .inl (ow_nI (sm_ou ((n, idn, den, pw, ln, SI, CH, cnt) : ow_GC) 202 0 (q, M, ST)).2.2.1.2.2))), ((ux 2), .inr (8, [.int (nI n), .int (sm_ou ((n, idn, den, pw, ln, SI, CH, cnt) : ow_GC) 202 0 (q, M, ST)).2.1.1, .int (nI ((sm_ou ((n, idn, den, pw, ln, SI, CH, cnt) : ow_GC) 202 0 (q, M, ST)).2.1.2.1)), .ref fc, .int idn, .int den])), (fc, .inl (cI, 24, .inl ((sm_ou ((n, idn, den, pw, ln, SI, CH, cnt) : ow_GC) 202 0 (q, M, ST)).2.1.2.2))), ((ux 3), .inl (cI, 24, .inl SI)), ((ux 4), .inl (cI, 24, .inl CH)), ((ux 5), .inl (cI, 24, .inl ((sm_ou ((n, idn, den, pw, ln, SI, CH, cnt) : ow_GC) 202 0 (q, M, ST)).2.2.2)))] H := by rw [hRE, hQ]; exact hP
                        have hD : va_D A [(aU, .inr (13, [.int (nI n), .int pw, .int (nI ln), .int (nI ((sm_ou ((n, idn, den, pw, ln, SI, CH, cnt) : ow_GC) 202 0 (q, M, ST)).2.2.1.1)), .ref (ux 0), .ref (ux 1), .ref (ux 2), .ref (ux 3), .ref (ux 4), .ref (ux 5), .int (nI cnt)])), ((ux 0), .inl (cI, 4020, .inl ((sm_ou ((n, idn, den, pw, ln, SI, CH, cnt) : ow_GC) 202 0 (q, M, ST)).2.2.1.2.1))), ((ux 1), .inl (cI, 201, .inl (ow_nI (sm_ou ((n, idn, den, pw, ln, SI, CH, cnt) : ow_GC) 202 0 (q, M, ST)).2.2.1.2.2))), ((ux 2), .inr (8, [.int (nI n), .int (sm_ou ((n, idn, den, pw, ln, SI, CH, cnt) : ow_GC) 202 0 (q, M, ST)).2.1.1, .int (nI ((sm_ou ((n, idn, den, pw, ln, SI, CH, cnt) : ow_GC) 202 0 (q, M, ST)).2.1.2.1)), .ref fc, .int idn, .int den])), (fc, .inl (cI, 24, .inl ((sm_ou ((n, idn, den, pw, ln, SI, CH, cnt) : ow_GC) 202 0 (q, M, ST)).2.1.2.2))), ((ux 3), .inl (cI, 24, .inl SI)), ((ux 4), .inl (cI, 24, .inl CH)), ((ux 5), .inl (cI, 24, .inl ((sm_ou ((n, idn, den, pw, ln, SI, CH, cnt) : ow_GC) 202 0 (q, M, ST)).2.2.2)))] := by rw [hRE, hQ]; exact hD
                        rw [hQQ]
                        exact W.zret (v := 0) (ty := .boolean) hx hb hr rfl (fun t ht hW => ⟨⟨0, (), rfl, by rw [hRE, hQ]; rfl, by rw [ht]; exact hP, hD⟩, hS.F ht⟩) hS.2.2 dgX10_gather_155
                      · rw [if_neg (fun h9 => h9.elim b1 (fun h8 => absurd h8.2 (by omega)))] at hI
                        refine lv_icmp_ge (tgt := 156) hx hb dgX10_gather_151 (by decide) (fun _ => ?_) (fun c9 => absurd (nI_le (a := ln) (b := w9.2.1) b3 (by omega)) c9)
                        refine lv_aload_n hx hb dgX10_gather_156 rfl (lv_at hl 0 rfl) ?_
                        refine va_get (D := (dC, dI)) (ci := 13) (v := .ref (ux 2)) (C := RX10) (T := TX10) (N := 11) hx hb hts (fun _ h => List.mem_cons_of_mem _ (List.mem_append_left _ (List.mem_append_left _ (List.mem_append_right _ h)))) hown hK hP 0 rfl rfl 6 (by decide) (hts (.fieldLink RX10 21 "KnotHouse$Summit" "work" "LKnotHouse$Form;") (by decide +kernel)) (fun _ h9 => h9) rfl dgX10_gather_157 ?_
                        refine va_get (D := (dC, dI)) (ci := 8) (v := .int w9.1) (C := RX5) (T := TX5) (N := 6) hx hb hts (fun _ h => List.mem_cons_of_mem _ (List.mem_append_left _ (List.mem_append_right _ h))) hown hK hP 3 rfl rfl 1 (by decide) (hts (.fieldLink RX10 75 "KnotHouse$Form" "power" "I") (by decide +kernel)) (fun _ h9 => h9) rfl dgX10_gather_160 ?_
                        refine lv_aload_n hx hb dgX10_gather_163 rfl (lv_at hl 0 rfl) ?_
                        refine va_get (D := (dC, dI)) (ci := 13) (v := .int pw) (C := RX10) (T := TX10) (N := 11) hx hb hts (fun _ h => List.mem_cons_of_mem _ (List.mem_append_left _ (List.mem_append_left _ (List.mem_append_right _ h)))) hown hK hP 0 rfl rfl 1 (by decide) (hts (.fieldLink RX10 87 "KnotHouse$Summit" "power" "I") (by decide +kernel)) (fun _ h9 => h9) rfl dgX10_gather_164 ?_
                        rcases Decidable.em (w9.1 = pw) with e1 | e1
                        · refine lv_icmp_ne (tgt := 203) hx hb dgX10_gather_167 (by decide) (fun c9 => absurd c9 (not_not_intro e1)) (fun _ => ?_)
                          refine lv_aload_n hx hb dgX10_gather_170 rfl (lv_at hl 0 rfl) ?_
                          refine va_get (D := (dC, dI)) (ci := 13) (v := .ref (ux 2)) (C := RX10) (T := TX10) (N := 11) hx hb hts (fun _ h => List.mem_cons_of_mem _ (List.mem_append_left _ (List.mem_append_left _ (List.mem_append_right _ h)))) hown hK hP 0 rfl rfl 6 (by decide) (hts (.fieldLink RX10 21 "KnotHouse$Summit" "work" "LKnotHouse$Form;") (by decide +kernel)) (fun _ h9 => h9) rfl dgX10_gather_171 ?_
                          refine va_get (D := (dC, dI)) (ci := 8) (v := .int (nI w9.2.1)) (C := RX5) (T := TX5) (N := 6) hx hb hts (fun _ h => List.mem_cons_of_mem _ (List.mem_append_left _ (List.mem_append_right _ h))) hown hK hP 3 rfl rfl 2 (by decide) (hts (.fieldLink RX10 81 "KnotHouse$Form" "length" "I") (by decide +kernel)) (fun _ h9 => h9) rfl dgX10_gather_174 ?_
                          refine lv_aload_n hx hb dgX10_gather_177 rfl (lv_at hl 0 rfl) ?_
                          refine va_get (D := (dC, dI)) (ci := 13) (v := .int (nI ln)) (C := RX10) (T := TX10) (N := 11) hx hb hts (fun _ h => List.mem_cons_of_mem _ (List.mem_append_left _ (List.mem_append_left _ (List.mem_append_right _ h)))) hown hK hP 0 rfl rfl 2 (by decide) (hts (.fieldLink RX10 88 "KnotHouse$Summit" "length" "I") (by decide +kernel)) (fun _ h9 => h9) rfl dgX10_gather_178 ?_
                          rcases Decidable.em (w9.2.1 = ln) with e2 | e2
                          · rw [if_pos ⟨e1, e2⟩] at hI
                            refine lv_icmp_ne (tgt := 203) hx hb dgX10_gather_181 (by decide) (fun c9 => absurd c9 (not_not_intro (congrArg nI e2))) (fun _ => ?_)
                            refine lv_aload_n hx hb dgX10_gather_184 rfl (lv_at hl 0 rfl) ?_
                            have hPc := hP.sub (ws' := [(aU, .inr (13, [.int (nI n), .int pw, .int (nI ln), .int (nI t9.2.1.1), .ref (ux 0), .ref (ux 1), .ref (ux 2), .ref (ux 3), .ref (ux 4), .ref (ux 5), .int (nI cnt)])), ((ux 0), .inl (cI, 4020, .inl t9.2.1.2.1)), ((ux 1), .inl (cI, 201, .inl (ow_nI t9.2.1.2.2))), ((ux 2), .inr (8, [.int (nI n), .int w9.1, .int (nI w9.2.1), .ref fc, .int idn, .int den])), (fc, .inl (cI, 24, .inl w9.2.2))]) [0, 1, 2, 3, 4] rfl
                            have hDc := hD.sub (ws' := [(aU, .inr (13, [.int (nI n), .int pw, .int (nI ln), .int (nI t9.2.1.1), .ref (ux 0), .ref (ux 1), .ref (ux 2), .ref (ux 3), .ref (ux 4), .ref (ux 5), .int (nI cnt)])), ((ux 0), .inl (cI, 4020, .inl t9.2.1.2.1)), ((ux 1), .inl (cI, 201, .inl (ow_nI t9.2.1.2.2))), ((ux 2), .inr (8, [.int (nI n), .int w9.1, .int (nI w9.2.1), .ref fc, .int idn, .int den])), (fc, .inl (cI, 24, .inl w9.2.2))]) [0, 1, 2, 3, 4] (by decide) rfl
                            have hFc := va_free (wc := [(aU, .inr (13, [.int (nI n), .int pw, .int (nI ln), .int (nI t9.2.1.1), .ref (ux 0), .ref (ux 1), .ref (ux 2), .ref (ux 3), .ref (ux 4), .ref (ux 5), .int (nI cnt)])), ((ux 0), .inl (cI, 4020, .inl t9.2.1.2.1)), ((ux 1), .inl (cI, 201, .inl (ow_nI t9.2.1.2.2))), ((ux 2), .inr (8, [.int (nI n), .int w9.1, .int (nI w9.2.1), .ref fc, .int idn, .int den])), (fc, .inl (cI, 24, .inl w9.2.2))]) hD hS hA [0, 1, 2, 3, 4] rfl
                            refine va_callv (va_runV (As := []) (rest := []) ⟨hx, hb, hml, hown, hts⟩ (kg_X10_add l dC dI cI cB cJ cZ aU ux n n fc pw idn den ln cnt t9.2.1 hok9.2 w9 H.size) (cwV 0 hts gg_X10_gather_2 rfl rfl rfl (by decide +kernel) ⟨(Nat.le_of_ble_eq_true rfl), (Nat.le_of_ble_eq_true rfl)⟩) ⟨fun a U g mk q => by obtain ⟨q0, q1, qP, qK, qD⟩ := q; exact ⟨q0, q1, qP, va_K.moved (u := U) (U := U.calling g mk a) (Vm.Alike.refl U.vm) qK, qD⟩, va_recv hK hPc (ci := 13) (q0 := 0) rfl rfl, fun U hU hW => ⟨rfl, by rw [hU], by rw [hU]; exact hPc, va_K.moved hW.alike hK, hDc.weaken (fun _ _ _ _ => trivial)⟩⟩ rfl rfl hl.1 rfl (lv_room (Nat.le_of_ble_eq_true rfl)) dgX10_gather_185 ⟨(Nat.le_of_ble_eq_true rfl), (Nat.le_of_ble_eq_true rfl)⟩) hS (fun q _ h => hFc q h) hFc (fun u9 t H1 locs ht hvm hw hB hz1 hk1 hS => ?_)
                            obtain ⟨hP1, hD1⟩ := hB
                            rw [ht] at hP1
                            obtain ⟨hP, hD⟩ := va_join (wr := [((ux 3), .inl (cI, 24, .inl SI)), ((ux 4), .inl (cI, 24, .inl CH)), ((ux 5), .inl (cI, 24, .inl t9.2.2.1))]) (w1 := [(aU, .inr (13, [.int (nI n), .int pw, .int (nI ln), .int (nI ((sm_add t9.2.1 w9.2.2 ln).1)), .ref (ux 0), .ref (ux 1), .ref (ux 2), .ref (ux 3), .ref (ux 4), .ref (ux 5), .int (nI cnt)])), ((ux 0), .inl (cI, 4020, .inl ((sm_add t9.2.1 w9.2.2 ln).2.1))), ((ux 1), .inl (cI, 201, .inl (ow_nI (sm_add t9.2.1 w9.2.2 ln).2.2))), ((ux 2), .inr (8, [.int (nI n), .int w9.1, .int (nI w9.2.1), .ref fc, .int idn, .int den])), (fc, .inl (cI, 24, .inl w9.2.2))]) hP hD [0, 1, 2, 3, 4] [5, 6, 7] rfl rfl (by decide) (by decide) hk1 hFc hP1 hD1
                            generalize H1 = H at hP hS ⊢
                            have hP : va_P (dC, dI) vwCl [((ux 3), .inl (cI, 24, .inl SI)), ((ux 4), .inl (cI, 24, .inl CH)), ((ux 5), .inl (cI, 24, .inl t9.2.2.1)), (aU, .inr (13, [.int (nI n), .int pw, .int (nI ln), .int (nI ((sm_add t9.2.1 w9.2.2 ln).1)), .ref (ux 0), .ref (ux 1), .ref (ux 2), .ref (ux 3), .ref (ux 4), .ref (ux 5), .int (nI cnt)])), ((ux 0), .inl (cI, 4020, .inl ((sm_add t9.2.1 w9.2.2 ln).2.1))), ((ux 1), .inl (cI, 201, .inl (ow_nI (sm_add t9.2.1 w9.2.2 ln).2.2))), ((ux 2), .inr (8, [.int (nI n), .int w9.1, .int (nI w9.2.1), .ref fc, .int idn, .int den])), (fc, .inl (cI, 24, .inl w9.2.2))] H := hP
                            have hD : va_D A [((ux 3), .inl (cI, 24, .inl SI)), ((ux 4), .inl (cI, 24, .inl CH)), ((ux 5), .inl (cI, 24, .inl t9.2.2.1)), (aU, .inr (13, [.int (nI n), .int pw, .int (nI ln), .int (nI ((sm_add t9.2.1 w9.2.2 ln).1)), .ref (ux 0), .ref (ux 1), .ref (ux 2), .ref (ux 3), .ref (ux 4), .ref (ux 5), .int (nI cnt)])), ((ux 0), .inl (cI, 4020, .inl ((sm_add t9.2.1 w9.2.2 ln).2.1))), ((ux 1), .inl (cI, 201, .inl (ow_nI (sm_add t9.2.1 w9.2.2 ln).2.2))), ((ux 2), .inr (8, [.int (nI n), .int w9.1, .int (nI w9.2.1), .ref fc, .int idn, .int den])), (fc, .inl (cI, 24, .inl w9.2.2))] := hD
                            have hP := hP.sub (ws' := [(aU, .inr (13, [.int (nI n), .int pw, .int (nI ln), .int (nI ((sm_add t9.2.1 w9.2.2 ln).1)), .ref (ux 0), .ref (ux 1), .ref (ux 2), .ref (ux 3), .ref (ux 4), .ref (ux 5), .int (nI cnt)])), ((ux 0), .inl (cI, 4020, .inl ((sm_add t9.2.1 w9.2.2 ln).2.1))), ((ux 1), .inl (cI, 201, .inl (ow_nI (sm_add t9.2.1 w9.2.2 ln).2.2))), ((ux 2), .inr (8, [.int (nI n), .int w9.1, .int (nI w9.2.1), .ref fc, .int idn, .int den])), (fc, .inl (cI, 24, .inl w9.2.2)), ((ux 3), .inl (cI, 24, .inl SI)), ((ux 4), .inl (cI, 24, .inl CH)), ((ux 5), .inl (cI, 24, .inl t9.2.2.1))]) [3, 4, 5, 6, 7, 0, 1, 2] rfl
                            have hD := hD.sub (ws' := [(aU, .inr (13, [.int (nI n), .int pw, .int (nI ln), .int (nI ((sm_add t9.2.1 w9.2.2 ln).1)), .ref (ux 0), .ref (ux 1), .ref (ux 2), .ref (ux 3), .ref (ux 4), .ref (ux 5), .int (nI cnt)])), ((ux 0), .inl (cI, 4020, .inl ((sm_add t9.2.1 w9.2.2 ln).2.1))), ((ux 1), .inl (cI, 201, .inl (ow_nI (sm_add t9.2.1 w9.2.2 ln).2.2))), ((ux 2), .inr (8, [.int (nI n), .int w9.1, .int (nI w9.2.1), .ref fc, .int idn, .int den])), (fc, .inl (cI, 24, .inl w9.2.2)), ((ux 3), .inl (cI, 24, .inl SI)), ((ux 4), .inl (cI, 24, .inl CH)), ((ux 5), .inl (cI, 24, .inl t9.2.2.1))]) [3, 4, 5, 6, 7, 0, 1, 2] (by decide) rfl
                            refine lv_aload_n hx hb dgX10_gather_188 rfl (lv_at hl 0 rfl) ?_
                            refine va_get (D := (dC, dI)) (ci := 13) (v := .ref (ux 5)) (C := RX10) (T := TX10) (N := 11) hx hb hts (fun _ h => List.mem_cons_of_mem _ (List.mem_append_left _ (List.mem_append_left _ (List.mem_append_right _ h)))) hown hK hP 0 rfl rfl 9 (by decide) (hts (.fieldLink RX10 31 "KnotHouse$Summit" "stayed" "[I") (by decide +kernel)) (fun _ h9 => h9) rfl dgX10_gather_189 ?_
                            refine lv_iload_n hx hb dgX10_gather_192 rfl (lv_at hl 2 rfl) ?_
                            refine lv_aload_n hx hb dgX10_gather_193 rfl (lv_at hl 0 rfl) ?_
                            refine va_get (D := (dC, dI)) (ci := 13) (v := .ref (ux 4)) (C := RX10) (T := TX10) (N := 11) hx hb hts (fun _ h => List.mem_cons_of_mem _ (List.mem_append_left _ (List.mem_append_left _ (List.mem_append_right _ h)))) hown hK hP 0 rfl rfl 8 (by decide) (hts (.fieldLink RX10 28 "KnotHouse$Summit" "changes" "[I") (by decide +kernel)) (fun _ h9 => h9) rfl dgX10_gather_194 ?_
                            refine lv_iload_n hx hb dgX10_gather_197 rfl (lv_at hl 3 rfl) ?_
                            refine va_iald hx hb hK hP 6 0 rfl rfl (vp_in_nI (n := k) (N := 24) (by omega) (by decide)) dgX10_gather_198 ?_
                            refine ow_topi (y := CH k) (congrArg CH (nI_clamp (n := k) (Nat.lt_trans (m := 24) (by omega) (by decide)))) ?_
                            refine ow_iastF (j := t9.2.2.2) (x := CH k) hx hb hK hP hD hS 7 0 rfl rfl (by omega) (by decide) dgX10_gather_199 (fun H locs hP hD hS => ?_)
                            have hP : va_P (dC, dI) vwCl [(aU, .inr (13, [.int (nI n), .int pw, .int (nI ln), .int (nI ((sm_add t9.2.1 w9.2.2 ln).1)), .ref (ux 0), .ref (ux 1), .ref (ux 2), .ref (ux 3), .ref (ux 4), .ref (ux 5), .int (nI cnt)])), ((ux 0), .inl (cI, 4020, .inl ((sm_add t9.2.1 w9.2.2 ln).2.1))), ((ux 1), .inl (cI, 201, .inl (ow_nI (sm_add t9.2.1 w9.2.2 ln).2.2))), ((ux 2), .inr (8, [.int (nI n), .int w9.1, .int (nI w9.2.1), .ref fc, .int idn, .int den])), (fc, .inl (cI, 24, .inl w9.2.2)), ((ux 3), .inl (cI, 24, .inl SI)), ((ux 4), .inl (cI, 24, .inl CH)), ((ux 5), .inl (cI, 24, .inl (su t9.2.2.1 t9.2.2.2 (CH k))))] H := hP
                            have hD : va_D A [(aU, .inr (13, [.int (nI n), .int pw, .int (nI ln), .int (nI ((sm_add t9.2.1 w9.2.2 ln).1)), .ref (ux 0), .ref (ux 1), .ref (ux 2), .ref (ux 3), .ref (ux 4), .ref (ux 5), .int (nI cnt)])), ((ux 0), .inl (cI, 4020, .inl ((sm_add t9.2.1 w9.2.2 ln).2.1))), ((ux 1), .inl (cI, 201, .inl (ow_nI (sm_add t9.2.1 w9.2.2 ln).2.2))), ((ux 2), .inr (8, [.int (nI n), .int w9.1, .int (nI w9.2.1), .ref fc, .int idn, .int den])), (fc, .inl (cI, 24, .inl w9.2.2)), ((ux 3), .inl (cI, 24, .inl SI)), ((ux 4), .inl (cI, 24, .inl CH)), ((ux 5), .inl (cI, 24, .inl (su t9.2.2.1 t9.2.2.2 (CH k))))] := hD
                            refine lv_iinc (v := nI (t9.2.2.2 + 1)) (lv' := [(2, .int (nI (t9.2.2.2 + 1))), (0, .ref aU), (1, .int (nI i)), (3, .int (nI k))]) hx hb dgX10_gather_200 hl (k := 2) rfl (nI_1 t9.2.2.2) (by decide) rfl (fun ls hl => ?_)
                            refine lv_iinc (v := nI (k + 1)) (lv' := [(3, .int (nI (k + 1))), (2, .int (nI (t9.2.2.2 + 1))), (0, .ref aU), (1, .int (nI i))]) hx hb dgX10_gather_203 hl (k := 3) rfl (nI_1 k) (by decide) rfl (fun ls hl => ?_)
                            refine lv_goto (tgt := 24) hx hb dgX10_gather_206 (by decide) ?_
                            have hge : t9.2.1.1 ≤ (sm_add t9.2.1 w9.2.2 ln).1 := by
                              unfold sm_add
                              split
                              · exact Nat.le_refl _
                              · split
                                · exact Nat.le_refl _
                                · exact Nat.le_succ _
                            exact ih2 (k + 1) (w9, (sm_add t9.2.1 w9.2.2 ln), su t9.2.2.1 t9.2.2.2 (CH k), t9.2.2.2 + 1) (by omega) (show t9.2.2.2 + 1 ≤ k + 1 by omega) (Nat.lt_of_lt_of_le hit hge) hI ⟨hcl, sm_add_ok hok9.2⟩ H locs ls hP hD hS (lv_sub hl [2, 3, 1, 0] rfl)
                          · rw [if_neg (fun h9 => e2 h9.2)] at hI
                            refine lv_icmp_ne (tgt := 203) hx hb dgX10_gather_181 (by decide) (fun _ => ?_) (fun c9 => absurd c9 (fun h9 => e2 (ow_nI_inj (by omega) (by omega) h9)))
                            refine lv_iinc (v := nI (k + 1)) (lv' := [(3, .int (nI (k + 1))), (0, .ref aU), (1, .int (nI i)), (2, .int (nI t9.2.2.2))]) hx hb dgX10_gather_203 hl (k := 3) rfl (nI_1 k) (by decide) rfl (fun ls hl => ?_)
                            refine lv_goto (tgt := 24) hx hb dgX10_gather_206 (by decide) ?_
                            exact ih2 (k + 1) (w9, t9.2) (by omega) (show t9.2.2.2 ≤ k + 1 by omega) hit hI ⟨hcl, hok9.2⟩ H locs ls hP hD hS (lv_sub hl [1, 2, 3, 0] rfl)
                        · rw [if_neg (fun h9 => e1 h9.1)] at hI
                          refine lv_icmp_ne (tgt := 203) hx hb dgX10_gather_167 (by decide) (fun _ => ?_) (fun c9 => absurd c9 (e1))
                          refine lv_iinc (v := nI (k + 1)) (lv' := [(3, .int (nI (k + 1))), (0, .ref aU), (1, .int (nI i)), (2, .int (nI t9.2.2.2))]) hx hb dgX10_gather_203 hl (k := 3) rfl (nI_1 k) (by decide) rfl (fun ls hl => ?_)
                          refine lv_goto (tgt := 24) hx hb dgX10_gather_206 (by decide) ?_
                          exact ih2 (k + 1) (w9, t9.2) (by omega) (show t9.2.2.2 ≤ k + 1 by omega) hit hI ⟨hcl, hok9.2⟩ H locs ls hP hD hS (lv_sub hl [1, 2, 3, 0] rfl)
                    · rw [if_neg (fun h9 => h9.elim b1 (fun h8 => b2 h8.1))] at hI
                      refine lv_icmp_ne (tgt := 156) hx hb dgX10_gather_137 (by decide) (fun _ => ?_) (fun c9 => absurd c9 (b2))
                      refine lv_aload_n hx hb dgX10_gather_156 rfl (lv_at hl 0 rfl) ?_
                      refine va_get (D := (dC, dI)) (ci := 13) (v := .ref (ux 2)) (C := RX10) (T := TX10) (N := 11) hx hb hts (fun _ h => List.mem_cons_of_mem _ (List.mem_append_left _ (List.mem_append_left _ (List.mem_append_right _ h)))) hown hK hP 0 rfl rfl 6 (by decide) (hts (.fieldLink RX10 21 "KnotHouse$Summit" "work" "LKnotHouse$Form;") (by decide +kernel)) (fun _ h9 => h9) rfl dgX10_gather_157 ?_
                      refine va_get (D := (dC, dI)) (ci := 8) (v := .int w9.1) (C := RX5) (T := TX5) (N := 6) hx hb hts (fun _ h => List.mem_cons_of_mem _ (List.mem_append_left _ (List.mem_append_right _ h))) hown hK hP 3 rfl rfl 1 (by decide) (hts (.fieldLink RX10 75 "KnotHouse$Form" "power" "I") (by decide +kernel)) (fun _ h9 => h9) rfl dgX10_gather_160 ?_
                      refine lv_aload_n hx hb dgX10_gather_163 rfl (lv_at hl 0 rfl) ?_
                      refine va_get (D := (dC, dI)) (ci := 13) (v := .int pw) (C := RX10) (T := TX10) (N := 11) hx hb hts (fun _ h => List.mem_cons_of_mem _ (List.mem_append_left _ (List.mem_append_left _ (List.mem_append_right _ h)))) hown hK hP 0 rfl rfl 1 (by decide) (hts (.fieldLink RX10 87 "KnotHouse$Summit" "power" "I") (by decide +kernel)) (fun _ h9 => h9) rfl dgX10_gather_164 ?_
                      rcases Decidable.em (w9.1 = pw) with e1 | e1
                      · refine lv_icmp_ne (tgt := 203) hx hb dgX10_gather_167 (by decide) (fun c9 => absurd c9 (not_not_intro e1)) (fun _ => ?_)
                        refine lv_aload_n hx hb dgX10_gather_170 rfl (lv_at hl 0 rfl) ?_
                        refine va_get (D := (dC, dI)) (ci := 13) (v := .ref (ux 2)) (C := RX10) (T := TX10) (N := 11) hx hb hts (fun _ h => List.mem_cons_of_mem _ (List.mem_append_left _ (List.mem_append_left _ (List.mem_append_right _ h)))) hown hK hP 0 rfl rfl 6 (by decide) (hts (.fieldLink RX10 21 "KnotHouse$Summit" "work" "LKnotHouse$Form;") (by decide +kernel)) (fun _ h9 => h9) rfl dgX10_gather_171 ?_
                        refine va_get (D := (dC, dI)) (ci := 8) (v := .int (nI w9.2.1)) (C := RX5) (T := TX5) (N := 6) hx hb hts (fun _ h => List.mem_cons_of_mem _ (List.mem_append_left _ (List.mem_append_right _ h))) hown hK hP 3 rfl rfl 2 (by decide) (hts (.fieldLink RX10 81 "KnotHouse$Form" "length" "I") (by decide +kernel)) (fun _ h9 => h9) rfl dgX10_gather_174 ?_
                        refine lv_aload_n hx hb dgX10_gather_177 rfl (lv_at hl 0 rfl) ?_
                        refine va_get (D := (dC, dI)) (ci := 13) (v := .int (nI ln)) (C := RX10) (T := TX10) (N := 11) hx hb hts (fun _ h => List.mem_cons_of_mem _ (List.mem_append_left _ (List.mem_append_left _ (List.mem_append_right _ h)))) hown hK hP 0 rfl rfl 2 (by decide) (hts (.fieldLink RX10 88 "KnotHouse$Summit" "length" "I") (by decide +kernel)) (fun _ h9 => h9) rfl dgX10_gather_178 ?_
                        rcases Decidable.em (w9.2.1 = ln) with e2 | e2
                        · rw [if_pos ⟨e1, e2⟩] at hI
                          refine lv_icmp_ne (tgt := 203) hx hb dgX10_gather_181 (by decide) (fun c9 => absurd c9 (not_not_intro (congrArg nI e2))) (fun _ => ?_)
                          refine lv_aload_n hx hb dgX10_gather_184 rfl (lv_at hl 0 rfl) ?_
                          have hPc := hP.sub (ws' := [(aU, .inr (13, [.int (nI n), .int pw, .int (nI ln), .int (nI t9.2.1.1), .ref (ux 0), .ref (ux 1), .ref (ux 2), .ref (ux 3), .ref (ux 4), .ref (ux 5), .int (nI cnt)])), ((ux 0), .inl (cI, 4020, .inl t9.2.1.2.1)), ((ux 1), .inl (cI, 201, .inl (ow_nI t9.2.1.2.2))), ((ux 2), .inr (8, [.int (nI n), .int w9.1, .int (nI w9.2.1), .ref fc, .int idn, .int den])), (fc, .inl (cI, 24, .inl w9.2.2))]) [0, 1, 2, 3, 4] rfl
                          have hDc := hD.sub (ws' := [(aU, .inr (13, [.int (nI n), .int pw, .int (nI ln), .int (nI t9.2.1.1), .ref (ux 0), .ref (ux 1), .ref (ux 2), .ref (ux 3), .ref (ux 4), .ref (ux 5), .int (nI cnt)])), ((ux 0), .inl (cI, 4020, .inl t9.2.1.2.1)), ((ux 1), .inl (cI, 201, .inl (ow_nI t9.2.1.2.2))), ((ux 2), .inr (8, [.int (nI n), .int w9.1, .int (nI w9.2.1), .ref fc, .int idn, .int den])), (fc, .inl (cI, 24, .inl w9.2.2))]) [0, 1, 2, 3, 4] (by decide) rfl
                          have hFc := va_free (wc := [(aU, .inr (13, [.int (nI n), .int pw, .int (nI ln), .int (nI t9.2.1.1), .ref (ux 0), .ref (ux 1), .ref (ux 2), .ref (ux 3), .ref (ux 4), .ref (ux 5), .int (nI cnt)])), ((ux 0), .inl (cI, 4020, .inl t9.2.1.2.1)), ((ux 1), .inl (cI, 201, .inl (ow_nI t9.2.1.2.2))), ((ux 2), .inr (8, [.int (nI n), .int w9.1, .int (nI w9.2.1), .ref fc, .int idn, .int den])), (fc, .inl (cI, 24, .inl w9.2.2))]) hD hS hA [0, 1, 2, 3, 4] rfl
                          refine va_callv (va_runV (As := []) (rest := []) ⟨hx, hb, hml, hown, hts⟩ (kg_X10_add l dC dI cI cB cJ cZ aU ux n n fc pw idn den ln cnt t9.2.1 hok9.2 w9 H.size) (cwV 0 hts gg_X10_gather_2 rfl rfl rfl (by decide +kernel) ⟨(Nat.le_of_ble_eq_true rfl), (Nat.le_of_ble_eq_true rfl)⟩) ⟨fun a U g mk q => by obtain ⟨q0, q1, qP, qK, qD⟩ := q; exact ⟨q0, q1, qP, va_K.moved (u := U) (U := U.calling g mk a) (Vm.Alike.refl U.vm) qK, qD⟩, va_recv hK hPc (ci := 13) (q0 := 0) rfl rfl, fun U hU hW => ⟨rfl, by rw [hU], by rw [hU]; exact hPc, va_K.moved hW.alike hK, hDc.weaken (fun _ _ _ _ => trivial)⟩⟩ rfl rfl hl.1 rfl (lv_room (Nat.le_of_ble_eq_true rfl)) dgX10_gather_185 ⟨(Nat.le_of_ble_eq_true rfl), (Nat.le_of_ble_eq_true rfl)⟩) hS (fun q _ h => hFc q h) hFc (fun u9 t H1 locs ht hvm hw hB hz1 hk1 hS => ?_)
                          obtain ⟨hP1, hD1⟩ := hB
                          rw [ht] at hP1
                          obtain ⟨hP, hD⟩ := va_join (wr := [((ux 3), .inl (cI, 24, .inl SI)), ((ux 4), .inl (cI, 24, .inl CH)), ((ux 5), .inl (cI, 24, .inl t9.2.2.1))]) (w1 := [(aU, .inr (13, [.int (nI n), .int pw, .int (nI ln), .int (nI ((sm_add t9.2.1 w9.2.2 ln).1)), .ref (ux 0), .ref (ux 1), .ref (ux 2), .ref (ux 3), .ref (ux 4), .ref (ux 5), .int (nI cnt)])), ((ux 0), .inl (cI, 4020, .inl ((sm_add t9.2.1 w9.2.2 ln).2.1))), ((ux 1), .inl (cI, 201, .inl (ow_nI (sm_add t9.2.1 w9.2.2 ln).2.2))), ((ux 2), .inr (8, [.int (nI n), .int w9.1, .int (nI w9.2.1), .ref fc, .int idn, .int den])), (fc, .inl (cI, 24, .inl w9.2.2))]) hP hD [0, 1, 2, 3, 4] [5, 6, 7] rfl rfl (by decide) (by decide) hk1 hFc hP1 hD1
                          generalize H1 = H at hP hS ⊢
                          have hP : va_P (dC, dI) vwCl [((ux 3), .inl (cI, 24, .inl SI)), ((ux 4), .inl (cI, 24, .inl CH)), ((ux 5), .inl (cI, 24, .inl t9.2.2.1)), (aU, .inr (13, [.int (nI n), .int pw, .int (nI ln), .int (nI ((sm_add t9.2.1 w9.2.2 ln).1)), .ref (ux 0), .ref (ux 1), .ref (ux 2), .ref (ux 3), .ref (ux 4), .ref (ux 5), .int (nI cnt)])), ((ux 0), .inl (cI, 4020, .inl ((sm_add t9.2.1 w9.2.2 ln).2.1))), ((ux 1), .inl (cI, 201, .inl (ow_nI (sm_add t9.2.1 w9.2.2 ln).2.2))), ((ux 2), .inr (8, [.int (nI n), .int w9.1, .int (nI w9.2.1), .ref fc, .int idn, .int den])), (fc, .inl (cI, 24, .inl w9.2.2))] H := hP
                          have hD : va_D A [((ux 3), .inl (cI, 24, .inl SI)), ((ux 4), .inl (cI, 24, .inl CH)), ((ux 5), .inl (cI, 24, .inl t9.2.2.1)), (aU, .inr (13, [.int (nI n), .int pw, .int (nI ln), .int (nI ((sm_add t9.2.1 w9.2.2 ln).1)), .ref (ux 0), .ref (ux 1), .ref (ux 2), .ref (ux 3), .ref (ux 4), .ref (ux 5), .int (nI cnt)])), ((ux 0), .inl (cI, 4020, .inl ((sm_add t9.2.1 w9.2.2 ln).2.1))), ((ux 1), .inl (cI, 201, .inl (ow_nI (sm_add t9.2.1 w9.2.2 ln).2.2))), ((ux 2), .inr (8, [.int (nI n), .int w9.1, .int (nI w9.2.1), .ref fc, .int idn, .int den])), (fc, .inl (cI, 24, .inl w9.2.2))] := hD
                          have hP := hP.sub (ws' := [(aU, .inr (13, [.int (nI n), .int pw, .int (nI ln), .int (nI ((sm_add t9.2.1 w9.2.2 ln).1)), .ref (ux 0), .ref (ux 1), .ref (ux 2), .ref (ux 3), .ref (ux 4), .ref (ux 5), .int (nI cnt)])), ((ux 0), .inl (cI, 4020, .inl ((sm_add t9.2.1 w9.2.2 ln).2.1))), ((ux 1), .inl (cI, 201, .inl (ow_nI (sm_add t9.2.1 w9.2.2 ln).2.2))), ((ux 2), .inr (8, [.int (nI n), .int w9.1, .int (nI w9.2.1), .ref fc, .int idn, .int den])), (fc, .inl (cI, 24, .inl w9.2.2)), ((ux 3), .inl (cI, 24, .inl SI)), ((ux 4), .inl (cI, 24, .inl CH)), ((ux 5), .inl (cI, 24, .inl t9.2.2.1))]) [3, 4, 5, 6, 7, 0, 1, 2] rfl
                          have hD := hD.sub (ws' := [(aU, .inr (13, [.int (nI n), .int pw, .int (nI ln), .int (nI ((sm_add t9.2.1 w9.2.2 ln).1)), .ref (ux 0), .ref (ux 1), .ref (ux 2), .ref (ux 3), .ref (ux 4), .ref (ux 5), .int (nI cnt)])), ((ux 0), .inl (cI, 4020, .inl ((sm_add t9.2.1 w9.2.2 ln).2.1))), ((ux 1), .inl (cI, 201, .inl (ow_nI (sm_add t9.2.1 w9.2.2 ln).2.2))), ((ux 2), .inr (8, [.int (nI n), .int w9.1, .int (nI w9.2.1), .ref fc, .int idn, .int den])), (fc, .inl (cI, 24, .inl w9.2.2)), ((ux 3), .inl (cI, 24, .inl SI)), ((ux 4), .inl (cI, 24, .inl CH)), ((ux 5), .inl (cI, 24, .inl t9.2.2.1))]) [3, 4, 5, 6, 7, 0, 1, 2] (by decide) rfl
                          refine lv_aload_n hx hb dgX10_gather_188 rfl (lv_at hl 0 rfl) ?_
                          refine va_get (D := (dC, dI)) (ci := 13) (v := .ref (ux 5)) (C := RX10) (T := TX10) (N := 11) hx hb hts (fun _ h => List.mem_cons_of_mem _ (List.mem_append_left _ (List.mem_append_left _ (List.mem_append_right _ h)))) hown hK hP 0 rfl rfl 9 (by decide) (hts (.fieldLink RX10 31 "KnotHouse$Summit" "stayed" "[I") (by decide +kernel)) (fun _ h9 => h9) rfl dgX10_gather_189 ?_
                          refine lv_iload_n hx hb dgX10_gather_192 rfl (lv_at hl 2 rfl) ?_
                          refine lv_aload_n hx hb dgX10_gather_193 rfl (lv_at hl 0 rfl) ?_
                          refine va_get (D := (dC, dI)) (ci := 13) (v := .ref (ux 4)) (C := RX10) (T := TX10) (N := 11) hx hb hts (fun _ h => List.mem_cons_of_mem _ (List.mem_append_left _ (List.mem_append_left _ (List.mem_append_right _ h)))) hown hK hP 0 rfl rfl 8 (by decide) (hts (.fieldLink RX10 28 "KnotHouse$Summit" "changes" "[I") (by decide +kernel)) (fun _ h9 => h9) rfl dgX10_gather_194 ?_
                          refine lv_iload_n hx hb dgX10_gather_197 rfl (lv_at hl 3 rfl) ?_
                          refine va_iald hx hb hK hP 6 0 rfl rfl (vp_in_nI (n := k) (N := 24) (by omega) (by decide)) dgX10_gather_198 ?_
                          refine ow_topi (y := CH k) (congrArg CH (nI_clamp (n := k) (Nat.lt_trans (m := 24) (by omega) (by decide)))) ?_
                          refine ow_iastF (j := t9.2.2.2) (x := CH k) hx hb hK hP hD hS 7 0 rfl rfl (by omega) (by decide) dgX10_gather_199 (fun H locs hP hD hS => ?_)
                          have hP : va_P (dC, dI) vwCl [(aU, .inr (13, [.int (nI n), .int pw, .int (nI ln), .int (nI ((sm_add t9.2.1 w9.2.2 ln).1)), .ref (ux 0), .ref (ux 1), .ref (ux 2), .ref (ux 3), .ref (ux 4), .ref (ux 5), .int (nI cnt)])), ((ux 0), .inl (cI, 4020, .inl ((sm_add t9.2.1 w9.2.2 ln).2.1))), ((ux 1), .inl (cI, 201, .inl (ow_nI (sm_add t9.2.1 w9.2.2 ln).2.2))), ((ux 2), .inr (8, [.int (nI n), .int w9.1, .int (nI w9.2.1), .ref fc, .int idn, .int den])), (fc, .inl (cI, 24, .inl w9.2.2)), ((ux 3), .inl (cI, 24, .inl SI)), ((ux 4), .inl (cI, 24, .inl CH)), ((ux 5), .inl (cI, 24, .inl (su t9.2.2.1 t9.2.2.2 (CH k))))] H := hP
                          have hD : va_D A [(aU, .inr (13, [.int (nI n), .int pw, .int (nI ln), .int (nI ((sm_add t9.2.1 w9.2.2 ln).1)), .ref (ux 0), .ref (ux 1), .ref (ux 2), .ref (ux 3), .ref (ux 4), .ref (ux 5), .int (nI cnt)])), ((ux 0), .inl (cI, 4020, .inl ((sm_add t9.2.1 w9.2.2 ln).2.1))), ((ux 1), .inl (cI, 201, .inl (ow_nI (sm_add t9.2.1 w9.2.2 ln).2.2))), ((ux 2), .inr (8, [.int (nI n), .int w9.1, .int (nI w9.2.1), .ref fc, .int idn, .int den])), (fc, .inl (cI, 24, .inl w9.2.2)), ((ux 3), .inl (cI, 24, .inl SI)), ((ux 4), .inl (cI, 24, .inl CH)), ((ux 5), .inl (cI, 24, .inl (su t9.2.2.1 t9.2.2.2 (CH k))))] := hD
                          refine lv_iinc (v := nI (t9.2.2.2 + 1)) (lv' := [(2, .int (nI (t9.2.2.2 + 1))), (0, .ref aU), (1, .int (nI i)), (3, .int (nI k))]) hx hb dgX10_gather_200 hl (k := 2) rfl (nI_1 t9.2.2.2) (by decide) rfl (fun ls hl => ?_)
                          refine lv_iinc (v := nI (k + 1)) (lv' := [(3, .int (nI (k + 1))), (2, .int (nI (t9.2.2.2 + 1))), (0, .ref aU), (1, .int (nI i))]) hx hb dgX10_gather_203 hl (k := 3) rfl (nI_1 k) (by decide) rfl (fun ls hl => ?_)
                          refine lv_goto (tgt := 24) hx hb dgX10_gather_206 (by decide) ?_
                          have hge : t9.2.1.1 ≤ (sm_add t9.2.1 w9.2.2 ln).1 := by
                            unfold sm_add
                            split
                            · exact Nat.le_refl _
                            · split
                              · exact Nat.le_refl _
                              · exact Nat.le_succ _
                          exact ih2 (k + 1) (w9, (sm_add t9.2.1 w9.2.2 ln), su t9.2.2.1 t9.2.2.2 (CH k), t9.2.2.2 + 1) (by omega) (show t9.2.2.2 + 1 ≤ k + 1 by omega) (Nat.lt_of_lt_of_le hit hge) hI ⟨hcl, sm_add_ok hok9.2⟩ H locs ls hP hD hS (lv_sub hl [2, 3, 1, 0] rfl)
                        · rw [if_neg (fun h9 => e2 h9.2)] at hI
                          refine lv_icmp_ne (tgt := 203) hx hb dgX10_gather_181 (by decide) (fun _ => ?_) (fun c9 => absurd c9 (fun h9 => e2 (ow_nI_inj (by omega) (by omega) h9)))
                          refine lv_iinc (v := nI (k + 1)) (lv' := [(3, .int (nI (k + 1))), (0, .ref aU), (1, .int (nI i)), (2, .int (nI t9.2.2.2))]) hx hb dgX10_gather_203 hl (k := 3) rfl (nI_1 k) (by decide) rfl (fun ls hl => ?_)
                          refine lv_goto (tgt := 24) hx hb dgX10_gather_206 (by decide) ?_
                          exact ih2 (k + 1) (w9, t9.2) (by omega) (show t9.2.2.2 ≤ k + 1 by omega) hit hI ⟨hcl, hok9.2⟩ H locs ls hP hD hS (lv_sub hl [1, 2, 3, 0] rfl)
                      · rw [if_neg (fun h9 => e1 h9.1)] at hI
                        refine lv_icmp_ne (tgt := 203) hx hb dgX10_gather_167 (by decide) (fun _ => ?_) (fun c9 => absurd c9 (e1))
                        refine lv_iinc (v := nI (k + 1)) (lv' := [(3, .int (nI (k + 1))), (0, .ref aU), (1, .int (nI i)), (2, .int (nI t9.2.2.2))]) hx hb dgX10_gather_203 hl (k := 3) rfl (nI_1 k) (by decide) rfl (fun ls hl => ?_)
                        refine lv_goto (tgt := 24) hx hb dgX10_gather_206 (by decide) ?_
                        exact ih2 (k + 1) (w9, t9.2) (by omega) (show t9.2.2.2 ≤ k + 1 by omega) hit hI ⟨hcl, hok9.2⟩ H locs ls hP hD hS (lv_sub hl [1, 2, 3, 0] rfl)
          exact L24 cnt 0 (g.1, g.2.1, g.2.2, 0) (by omega) (Nat.le_refl 0) h1 hIN.symm hok H locs ls hP hD hS (lv_sub hl [2, 3, 1, 0] rfl)
      · rw [if_neg (fun h9 => absurd h9.1 (by omega))] at hQ
        refine lv_icmp_ge (tgt := 215) hx hb dgX10_gather_7 (by decide) (fun _ => ?_) (fun c9 => absurd (nI_le (a := g.2.1.1) (b := i) h1 (by omega)) c9)
        refine lv_iconst (v := 1) hx hb dgX10_gather_215 (by decide) ?_
        have hP : va_P (dC, dI) vwCl [(aU, .inr (13, [.int (nI n), .int pw, .int (nI ln), .int (nI ((sm_ou ((n, idn, den, pw, ln, SI, CH, cnt) : ow_GC) 202 0 (q, M, ST)).2.2.1.1)), .ref (ux 0), .ref (ux 1), .ref (ux 2), .ref (ux 3), .ref (ux 4), .ref (ux 5), .int (nI cnt)])), ((ux 0), .inl (cI, 4020, .inl ((sm_ou ((n, idn, den, pw, ln, SI, CH, cnt) : ow_GC) 202 0 (q, M, ST)).2.2.1.2.1))), ((ux 1), .inl (cI, 201, .inl (ow_nI (sm_ou ((n, idn, den, pw, ln, SI, CH, cnt) : ow_GC) 202 0 (q, M, ST)).2.2.1.2.2))), ((ux 2), .inr (8, [.int (nI n), .int (sm_ou ((n, idn, den, pw, ln, SI, CH, cnt) : ow_GC) 202 0 (q, M, ST)).2.1.1, .int (nI ((sm_ou ((n, idn, den, pw, ln, SI, CH, cnt) : ow_GC) 202 0 (q, M, ST)).2.1.2.1)), .ref fc, .int idn, .int den])), (fc, .inl (cI, 24, .inl ((sm_ou ((n, idn, den, pw, ln, SI, CH, cnt) : ow_GC) 202 0 (q, M, ST)).2.1.2.2))), ((ux 3), .inl (cI, 24, .inl SI)), ((ux 4), .inl (cI, 24, .inl CH)), ((ux 5), .inl (cI, 24, .inl ((sm_ou ((n, idn, den, pw, ln, SI, CH, cnt) : ow_GC) 202 0 (q, M, ST)).2.2.2)))] H := by rw [hRE, hQ]; exact hP
        have hD : va_D A [(aU, .inr (13, [.int (nI n), .int pw, .int (nI ln), .int (nI ((sm_ou ((n, idn, den, pw, ln, SI, CH, cnt) : ow_GC) 202 0 (q, M, ST)).2.2.1.1)), .ref (ux 0), .ref (ux 1), .ref (ux 2), .ref (ux 3), .ref (ux 4), .ref (ux 5), .int (nI cnt)])), ((ux 0), .inl (cI, 4020, .inl ((sm_ou ((n, idn, den, pw, ln, SI, CH, cnt) : ow_GC) 202 0 (q, M, ST)).2.2.1.2.1))), ((ux 1), .inl (cI, 201, .inl (ow_nI (sm_ou ((n, idn, den, pw, ln, SI, CH, cnt) : ow_GC) 202 0 (q, M, ST)).2.2.1.2.2))), ((ux 2), .inr (8, [.int (nI n), .int (sm_ou ((n, idn, den, pw, ln, SI, CH, cnt) : ow_GC) 202 0 (q, M, ST)).2.1.1, .int (nI ((sm_ou ((n, idn, den, pw, ln, SI, CH, cnt) : ow_GC) 202 0 (q, M, ST)).2.1.2.1)), .ref fc, .int idn, .int den])), (fc, .inl (cI, 24, .inl ((sm_ou ((n, idn, den, pw, ln, SI, CH, cnt) : ow_GC) 202 0 (q, M, ST)).2.1.2.2))), ((ux 3), .inl (cI, 24, .inl SI)), ((ux 4), .inl (cI, 24, .inl CH)), ((ux 5), .inl (cI, 24, .inl ((sm_ou ((n, idn, den, pw, ln, SI, CH, cnt) : ow_GC) 202 0 (q, M, ST)).2.2.2)))] := by rw [hRE, hQ]; exact hD
        rw [hQQ]
        exact W.zret (v := 1) (ty := .boolean) hx hb hr rfl (fun t ht hW => ⟨⟨1, (), rfl, by rw [hRE, hQ]; rfl, by rw [ht]; exact hP, hD⟩, hS.F ht⟩) hS.2.2 dgX10_gather_216
  refine lv_iconst (v := 0) hx hb dgX10_gather_0 (by decide) ?_
  refine ow_topi (y := nI 0) (by decide) ?_
  refine lv_istore_n (lv' := [(1, .int (nI 0)), (0, .ref aU)]) hx hb dgX10_gather_1 rfl hl (by decide) rfl (fun ls hl => ?_)
  exact L2 202 0 (q, M, ST) (by omega) hRES hga H locs ls hP hD hS (lv_sub hl [1, 0] rfl)
