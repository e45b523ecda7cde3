/-! the mate of a visit; how many places hold -1 -/
def mt (q : Nat) : Nat := if q % 2 = 0 then q + 1 else q - 1
theorem mt_xor {q : Nat} (h : q < 24) : nI q ^^^ 1 = nI (mt q) := by
  have key : ∀ i : Fin 24, nI i.1 ^^^ 1 = nI (mt i.1) := by decide +kernel
  exact key ⟨q, h⟩
theorem mt_lt {q c : Nat} (h : q < 2 * c) : mt q < 2 * c := by
  unfold mt
  split <;> omega
def cntU (F : Nat → Int32) : Nat → Nat
  | 0 => 0
  | n + 1 => cntU F n + (if F n = -1 then 1 else 0)
theorem cntU_le (F : Nat → Int32) : ∀ n, cntU F n ≤ n := by
  intro n
  induction n with
  | zero => exact Nat.le_refl 0
  | succ n ih =>
    show cntU F n + (if F n = -1 then 1 else 0) ≤ n + 1
    split <;> omega
theorem cntU_out {F : Nat → Int32} {v : Nat} {x : Int32} : ∀ n, n ≤ v → cntU (su F v x) n = cntU F n := by
  intro n
  induction n with
  | zero => intro _; rfl
  | succ n ih =>
    intro h
    show cntU (su F v x) n + (if su F v x n = -1 then 1 else 0) = cntU F n + (if F n = -1 then 1 else 0)
    rw [ih (by omega), show su F v x n = F n from if_neg (by omega)]
theorem cntU_su {F : Nat → Int32} {v : Nat} {x : Int32} (hF : F v = -1) (hx : x ≠ -1) : ∀ n, v < n → cntU (su F v x) n + 1 = cntU F n := by
  intro n
  induction n with
  | zero => intro h; omega
  | succ n ih =>
    intro h
    show cntU (su F v x) n + (if su F v x n = -1 then 1 else 0) + 1 = cntU F n + (if F n = -1 then 1 else 0)
    by_cases e : v = n
    · subst e
      rw [cntU_out v (Nat.le_refl v), show su F v x v = x from if_pos rfl, if_neg hx, if_pos hF]
    · rw [show su F v x n = F n from if_neg (fun h => e h.symm)]
      have := ih (by omega)
      omega
theorem nI_nm1 {k : Nat} (h : k < 2 ^ 31) : nI k ≠ -1 := by
  intro e
  have h1 : (nI k).toInt = (-1 : Int32).toInt := by rw [e]
  rw [nI_toInt h] at h1
  have h2 : (-1 : Int32).toInt = -1 := by decide
  omega
/-- parts: the marks, the queue, how many stand in it -/
abbrev ow_PQ := (Nat → Int32) × (Nat → Nat) × Nat
def mp_add (k : Int32) (t : ow_PQ) (v : Nat) : ow_PQ := if t.1 v = -1 then (su t.1 v k, nu t.2.1 t.2.2 v, t.2.2 + 1) else t
def mp_bfs (N : Nat → Nat) (k : Int32) : Nat → Nat → ow_PQ → ow_PQ
  | 0, _, t => t
  | n + 1, i, t => if i < t.2.2 then mp_bfs N k n (i + 1) (mp_add k (mp_add k t (N (t.2.1 i))) (mt (t.2.1 i))) else t
def mp_out (N : Nat → Nat) (vs : Nat) (F : Nat → Int32) : Nat → (Nat → Int32) × Nat
  | 0 => (F, 0)
  | n + 1 => if (mp_out N vs F n).1 n = -1 then ((mp_bfs N (nI (mp_out N vs F n).2) vs 0 (su (mp_out N vs F n).1 n (nI (mp_out N vs F n).2), (fun _ => n), 1)).1, (mp_out N vs F n).2 + 1) else mp_out N vs F n
theorem mp_out_le (N : Nat → Nat) (vs : Nat) (F : Nat → Int32) : ∀ n, (mp_out N vs F n).2 ≤ n := by
  intro n
  induction n with
  | zero => exact Nat.le_refl 0
  | succ n ih =>
    show (if (mp_out N vs F n).1 n = -1 then _ else _ : (Nat → Int32) × Nat).2 ≤ n + 1
    split
    · show (mp_out N vs F n).2 + 1 ≤ n + 1
      omega
    · omega
/-- the queue holds visits, and there is room for all that are not marked -/
def mp_ok (vs : Nat) (t : ow_PQ) : Prop := (∀ j, j < t.2.2 → t.2.1 j < vs) ∧ t.2.2 + cntU t.1 vs ≤ vs
theorem mp_add_ok {vs k v : Nat} {t : ow_PQ} (hk : k < 2 ^ 31) (h : mp_ok vs t) (hv : v < vs) : mp_ok vs (mp_add (nI k) t v) := by
  unfold mp_add
  split
  · rename_i hF
    refine ⟨?_, ?_⟩
    · intro j hj
      show (if j = t.2.2 then v else t.2.1 j) < vs
      split
      · exact hv
      · rename_i hne
        have hj : j < t.2.2 + 1 := hj
        exact h.1 j (by omega)
    · have h1 := cntU_su (x := nI k) hF (nI_nm1 hk) vs hv
      have h2 := h.2
      show t.2.2 + 1 + cntU (su t.1 v (nI k)) vs ≤ vs
      omega
  · exact h
theorem mp_add_room {vs v : Nat} {t : ow_PQ} (h : mp_ok vs t) (hv : v < vs) (hF : t.1 v = -1) : t.2.2 < vs := by
  have h1 := cntU_su (x := 0) hF (by decide) vs hv
  have h2 := h.2
  omega
theorem zq_step {Z : Nat → Int32} {U : Nat → Nat} {n v : Nat} (h : ∀ a, a < n → Z a = nI (U a)) : ∀ a, a < n + 1 → su Z n (nI v) a = nI (nu U n v a) := by
  intro a ha
  show (if a = n then nI v else Z a) = nI (if a = n then v else U a)
  split
  · rfl
  · exact h a (by omega)
theorem dgX7_markParts_0 : decode cX7_markParts 0 = .ok (.iconst 2, 1) := by decide +kernel
theorem dgX7_markParts_1 : decode cX7_markParts 1 = .ok (.aload_n 0, 1) := by decide +kernel
theorem dgX7_markParts_2 : decode cX7_markParts 2 = .ok (.getfield 39, 3) := by decide +kernel
theorem dgX7_markParts_5 : decode cX7_markParts 5 = .ok (.imul, 1) := by decide +kernel
theorem dgX7_markParts_6 : decode cX7_markParts 6 = .ok (.istore_n 1, 1) := by decide +kernel
theorem dgX7_markParts_7 : decode cX7_markParts 7 = .ok (.aload_n 0, 1) := by decide +kernel
theorem dgX7_markParts_8 : decode cX7_markParts 8 = .ok (.getfield 27, 3) := by decide +kernel
theorem dgX7_markParts_11 : decode cX7_markParts 11 = .ok (.iconst 0, 1) := by decide +kernel
theorem dgX7_markParts_12 : decode cX7_markParts 12 = .ok (.iload_n 1, 1) := by decide +kernel
theorem dgX7_markParts_13 : decode cX7_markParts 13 = .ok (.iconst (-1), 1) := by decide +kernel
theorem dgX7_markParts_14 : decode cX7_markParts 14 = .ok (.invokestatic 84, 3) := by decide +kernel
theorem dgX7_markParts_17 : decode cX7_markParts 17 = .ok (.aload_n 0, 1) := by decide +kernel
theorem dgX7_markParts_18 : decode cX7_markParts 18 = .ok (.iconst 0, 1) := by decide +kernel
theorem dgX7_markParts_19 : decode cX7_markParts 19 = .ok (.putfield 90, 3) := by decide +kernel
theorem dgX7_markParts_22 : decode cX7_markParts 22 = .ok (.iconst 0, 1) := by decide +kernel
theorem dgX7_markParts_23 : decode cX7_markParts 23 = .ok (.istore_n 2, 1) := by decide +kernel
theorem dgX7_markParts_24 : decode cX7_markParts 24 = .ok (.iload_n 2, 1) := by decide +kernel
theorem dgX7_markParts_25 : decode cX7_markParts 25 = .ok (.iload_n 1, 1) := by decide +kernel
theorem dgX7_markParts_26 : decode cX7_markParts 26 = .ok (.if_icmp .ge 157, 3) := by decide +kernel
theorem dgX7_markParts_29 : decode cX7_markParts 29 = .ok (.aload_n 0, 1) := by decide +kernel
theorem dgX7_markParts_30 : decode cX7_markParts 30 = .ok (.getfield 27, 3) := by decide +kernel
theorem dgX7_markParts_33 : decode cX7_markParts 33 = .ok (.iload_n 2, 1) := by decide +kernel
theorem dgX7_markParts_34 : decode cX7_markParts 34 = .ok (.iaload, 1) := by decide +kernel
theorem dgX7_markParts_35 : decode cX7_markParts 35 = .ok (.iconst (-1), 1) := by decide +kernel
theorem dgX7_markParts_36 : decode cX7_markParts 36 = .ok (.if_icmp .eq 6, 3) := by decide +kernel
theorem dgX7_markParts_39 : decode cX7_markParts 39 = .ok (.goto 138, 3) := by decide +kernel
theorem dgX7_markParts_42 : decode cX7_markParts 42 = .ok (.iconst 1, 1) := by decide +kernel
theorem dgX7_markParts_43 : decode cX7_markParts 43 = .ok (.istore_n 3, 1) := by decide +kernel
theorem dgX7_markParts_44 : decode cX7_markParts 44 = .ok (.aload_n 0, 1) := by decide +kernel
theorem dgX7_markParts_45 : decode cX7_markParts 45 = .ok (.getfield 30, 3) := by decide +kernel
theorem dgX7_markParts_48 : decode cX7_markParts 48 = .ok (.iconst 0, 1) := by decide +kernel
theorem dgX7_markParts_49 : decode cX7_markParts 49 = .ok (.iload_n 2, 1) := by decide +kernel
theorem dgX7_markParts_50 : decode cX7_markParts 50 = .ok (.iastore, 1) := by decide +kernel
theorem dgX7_markParts_51 : decode cX7_markParts 51 = .ok (.aload_n 0, 1) := by decide +kernel
theorem dgX7_markParts_52 : decode cX7_markParts 52 = .ok (.getfield 27, 3) := by decide +kernel
theorem dgX7_markParts_55 : decode cX7_markParts 55 = .ok (.iload_n 2, 1) := by decide +kernel
theorem dgX7_markParts_56 : decode cX7_markParts 56 = .ok (.aload_n 0, 1) := by decide +kernel
theorem dgX7_markParts_57 : decode cX7_markParts 57 = .ok (.getfield 90, 3) := by decide +kernel
theorem dgX7_markParts_60 : decode cX7_markParts 60 = .ok (.iastore, 1) := by decide +kernel
theorem dgX7_markParts_61 : decode cX7_markParts 61 = .ok (.iconst 0, 1) := by decide +kernel
theorem dgX7_markParts_62 : decode cX7_markParts 62 = .ok (.istore 4, 2) := by decide +kernel
theorem dgX7_markParts_64 : decode cX7_markParts 64 = .ok (.iload 4, 2) := by decide +kernel
theorem dgX7_markParts_66 : decode cX7_markParts 66 = .ok (.iload_n 3, 1) := by decide +kernel
theorem dgX7_markParts_67 : decode cX7_markParts 67 = .ok (.if_icmp .ge 100, 3) := by decide +kernel
theorem dgX7_markParts_70 : decode cX7_markParts 70 = .ok (.aload_n 0, 1) := by decide +kernel
theorem dgX7_markParts_71 : decode cX7_markParts 71 = .ok (.getfield 9, 3) := by decide +kernel
theorem dgX7_markParts_74 : decode cX7_markParts 74 = .ok (.aload_n 0, 1) := by decide +kernel
theorem dgX7_markParts_75 : decode cX7_markParts 75 = .ok (.getfield 30, 3) := by decide +kernel
theorem dgX7_markParts_78 : decode cX7_markParts 78 = .ok (.iload 4, 2) := by decide +kernel
theorem dgX7_markParts_80 : decode cX7_markParts 80 = .ok (.iaload, 1) := by decide +kernel
theorem dgX7_markParts_81 : decode cX7_markParts 81 = .ok (.iaload, 1) := by decide +kernel
theorem dgX7_markParts_82 : decode cX7_markParts 82 = .ok (.istore 5, 2) := by decide +kernel
theorem dgX7_markParts_84 : decode cX7_markParts 84 = .ok (.aload_n 0, 1) := by decide +kernel
theorem dgX7_markParts_85 : decode cX7_markParts 85 = .ok (.getfield 30, 3) := by decide +kernel
theorem dgX7_markParts_88 : decode cX7_markParts 88 = .ok (.iload 4, 2) := by decide +kernel
theorem dgX7_markParts_90 : decode cX7_markParts 90 = .ok (.iaload, 1) := by decide +kernel
theorem dgX7_markParts_91 : decode cX7_markParts 91 = .ok (.iconst 1, 1) := by decide +kernel
theorem dgX7_markParts_92 : decode cX7_markParts 92 = .ok (.ixor, 1) := by decide +kernel
theorem dgX7_markParts_93 : decode cX7_markParts 93 = .ok (.istore 6, 2) := by decide +kernel
theorem dgX7_markParts_95 : decode cX7_markParts 95 = .ok (.aload_n 0, 1) := by decide +kernel
theorem dgX7_markParts_96 : decode cX7_markParts 96 = .ok (.getfield 27, 3) := by decide +kernel
theorem dgX7_markParts_99 : decode cX7_markParts 99 = .ok (.iload 5, 2) := by decide +kernel
theorem dgX7_markParts_101 : decode cX7_markParts 101 = .ok (.iaload, 1) := by decide +kernel
theorem dgX7_markParts_102 : decode cX7_markParts 102 = .ok (.iconst (-1), 1) := by decide +kernel
theorem dgX7_markParts_103 : decode cX7_markParts 103 = .ok (.if_icmp .ne 25, 3) := by decide +kernel
theorem dgX7_markParts_106 : decode cX7_markParts 106 = .ok (.aload_n 0, 1) := by decide +kernel
theorem dgX7_markParts_107 : decode cX7_markParts 107 = .ok (.getfield 27, 3) := by decide +kernel
theorem dgX7_markParts_110 : decode cX7_markParts 110 = .ok (.iload 5, 2) := by decide +kernel
theorem dgX7_markParts_112 : decode cX7_markParts 112 = .ok (.aload_n 0, 1) := by decide +kernel
theorem dgX7_markParts_113 : decode cX7_markParts 113 = .ok (.getfield 90, 3) := by decide +kernel
theorem dgX7_markParts_116 : decode cX7_markParts 116 = .ok (.iastore, 1) := by decide +kernel
theorem dgX7_markParts_117 : decode cX7_markParts 117 = .ok (.aload_n 0, 1) := by decide +kernel
theorem dgX7_markParts_118 : decode cX7_markParts 118 = .ok (.getfield 30, 3) := by decide +kernel
theorem dgX7_markParts_121 : decode cX7_markParts 121 = .ok (.iload_n 3, 1) := by decide +kernel
theorem dgX7_markParts_122 : decode cX7_markParts 122 = .ok (.iload 5, 2) := by decide +kernel
theorem dgX7_markParts_124 : decode cX7_markParts 124 = .ok (.iastore, 1) := by decide +kernel
theorem dgX7_markParts_125 : decode cX7_markParts 125 = .ok (.iinc 3 1, 3) := by decide +kernel
theorem dgX7_markParts_128 : decode cX7_markParts 128 = .ok (.aload_n 0, 1) := by decide +kernel
theorem dgX7_markParts_129 : decode cX7_markParts 129 = .ok (.getfield 27, 3) := by decide +kernel
theorem dgX7_markParts_132 : decode cX7_markParts 132 = .ok (.iload 6, 2) := by decide +kernel
theorem dgX7_markParts_134 : decode cX7_markParts 134 = .ok (.iaload, 1) := by decide +kernel
theorem dgX7_markParts_135 : decode cX7_markParts 135 = .ok (.iconst (-1), 1) := by decide +kernel
theorem dgX7_markParts_136 : decode cX7_markParts 136 = .ok (.if_icmp .ne 25, 3) := by decide +kernel
theorem dgX7_markParts_139 : decode cX7_markParts 139 = .ok (.aload_n 0, 1) := by decide +kernel
theorem dgX7_markParts_140 : decode cX7_markParts 140 = .ok (.getfield 27, 3) := by decide +kernel
theorem dgX7_markParts_143 : decode cX7_markParts 143 = .ok (.iload 6, 2) := by decide +kernel
theorem dgX7_markParts_145 : decode cX7_markParts 145 = .ok (.aload_n 0, 1) := by decide +kernel
theorem dgX7_markParts_146 : decode cX7_markParts 146 = .ok (.getfield 90, 3) := by decide +kernel
theorem dgX7_markParts_149 : decode cX7_markParts 149 = .ok (.iastore, 1) := by decide +kernel
theorem dgX7_markParts_150 : decode cX7_markParts 150 = .ok (.aload_n 0, 1) := by decide +kernel
theorem dgX7_markParts_151 : decode cX7_markParts 151 = .ok (.getfield 30, 3) := by decide +kernel
theorem dgX7_markParts_154 : decode cX7_markParts 154 = .ok (.iload_n 3, 1) := by decide +kernel
theorem dgX7_markParts_155 : decode cX7_markParts 155 = .ok (.iload 6, 2) := by decide +kernel
theorem dgX7_markParts_157 : decode cX7_markParts 157 = .ok (.iastore, 1) := by decide +kernel
theorem dgX7_markParts_158 : decode cX7_markParts 158 = .ok (.iinc 3 1, 3) := by decide +kernel
theorem dgX7_markParts_161 : decode cX7_markParts 161 = .ok (.iinc 4 1, 3) := by decide +kernel
theorem dgX7_markParts_164 : decode cX7_markParts 164 = .ok (.goto (-100), 3) := by decide +kernel
theorem dgX7_markParts_167 : decode cX7_markParts 167 = .ok (.aload_n 0, 1) := by decide +kernel
theorem dgX7_markParts_168 : decode cX7_markParts 168 = .ok (.dup, 1) := by decide +kernel
theorem dgX7_markParts_169 : decode cX7_markParts 169 = .ok (.getfield 90, 3) := by decide +kernel
theorem dgX7_markParts_172 : decode cX7_markParts 172 = .ok (.iconst 1, 1) := by decide +kernel
theorem dgX7_markParts_173 : decode cX7_markParts 173 = .ok (.iadd, 1) := by decide +kernel
theorem dgX7_markParts_174 : decode cX7_markParts 174 = .ok (.putfield 90, 3) := by decide +kernel
theorem dgX7_markParts_177 : decode cX7_markParts 177 = .ok (.iinc 2 1, 3) := by decide +kernel
theorem dgX7_markParts_180 : decode cX7_markParts 180 = .ok (.goto (-156), 3) := by decide +kernel
theorem dgX7_markParts_183 : decode cX7_markParts 183 = .ok (.return_, 1) := by decide +kernel
def wg_X7_markParts : List Cond := .code yX7_markParts cX7_markParts 7 none :: (([.fieldLink RX7 39 "KnotHouse$Net" "crossings" "I", .fieldLink RX7 27 "KnotHouse$Net" "part" "[I", .fieldLink RX7 90 "KnotHouse$Net" "parts" "I", .fieldLink RX7 30 "KnotHouse$Net" "queue" "[I", .fieldLink RX7 9 "KnotHouse$Net" "next" "[I"] ++ wsX70) ++ (va_wsS RX7 84 yJ7_fill_fda19 wg_J7_fill_fda19 ++ []))
theorem gg_X7_markParts_0 : GoodIn wg_X7_markParts (va_wsS RX7 84 yJ7_fill_fda19 wg_J7_fill_fda19) := goodIn_sub (fun _ h => List.mem_cons_of_mem _ (List.mem_append_right _ (List.mem_append_left _ h))) (by decide +kernel)
set_option maxHeartbeats 4000000 in
set_option maxRecDepth 100000 in
theorem kg_X7_markParts (l : Launch) (dC : Nat → ClassId) (dI : Nat → Nat → Nat) (cI cB cJ cZ : ClassId) (aX : Nat) (nx : Nat → Nat) (x8 x9 x10 : Int32) (S : ow_NP) (hS0 : ow_b24 S) (F Z : Nat → Int32) (cn : Nat) (hc : cn ≤ 12) (hN : ∀ k, k < 2 * cn → S.1 k < 2 * cn) (sz : Nat) : Met l yX7_markParts wg_X7_markParts (({ frames := 2, cells := 0, slots := 0, locals := 46 } : Room)) (va_Pc [.ref aX] (fun U => U.heap.size = sz ∧ va_P (dC, dI) vwCl [(aX, .inr (10, [.ref (nx 0), .ref (nx 1), .ref (nx 2), .ref (nx 3), .ref (nx 4), .ref (nx 5), .ref (nx 6), .int (nI cn), .int x8, .int x9, .int x10])), ((nx 0), .inl (cI, 24, .inl (ow_nI S.1))), ((nx 5), .inl (cI, 24, .inl F)), ((nx 6), .inl (cI, 24, .inl Z))] U.heap ∧ va_K (dC, dI) vwCl [(cI, .int), (cB, .byte), (cJ, .long), (cZ, .boolean)] U ∧ va_D (fun _ => True) [(aX, .inr (10, [.ref (nx 0), .ref (nx 1), .ref (nx 2), .ref (nx 3), .ref (nx 4), .ref (nx 5), .ref (nx 6), .int (nI cn), .int x8, .int x9, .int x10])), ((nx 0), .inl (cI, 24, .inl (ow_nI S.1))), ((nx 5), .inl (cI, 24, .inl F)), ((nx 6), .inl (cI, 24, .inl Z))])) (va_Qv (fun (g : Nat → Int32) => True) (fun g t => va_P (dC, dI) vwCl [(aX, .inr (10, [.ref (nx 0), .ref (nx 1), .ref (nx 2), .ref (nx 3), .ref (nx 4), .ref (nx 5), .ref (nx 6), .int (nI cn), .int x8, .int x9, .int (nI (mp_out S.1 (2 * cn) (np_fill F 0 (2 * cn) (-1)) (2 * cn)).2)])), ((nx 0), .inl (cI, 24, .inl (ow_nI S.1))), ((nx 5), .inl (cI, 24, .inl ((mp_out S.1 (2 * cn) (np_fill F 0 (2 * cn) (-1)) (2 * cn)).1))), ((nx 6), .inl (cI, 24, .inl g))] t.heap ∧ va_D (va_A [(aX, .inr (10, [.ref (nx 0), .ref (nx 1), .ref (nx 2), .ref (nx 3), .ref (nx 4), .ref (nx 5), .ref (nx 6), .int (nI cn), .int x8, .int x9, .int x10])), ((nx 0), .inl (cI, 24, .inl (ow_nI S.1))), ((nx 5), .inl (cI, 24, .inl F)), ((nx 6), .inl (cI, 24, .inl Z))] sz) [(aX, .inr (10, [.ref (nx 0), .ref (nx 1), .ref (nx 2), .ref (nx 3), .ref (nx 4), .ref (nx 5), .ref (nx 6), .int (nI cn), .int x8, .int x9, .int (nI (mp_out S.1 (2 * cn) (np_fill F 0 (2 * cn) (-1)) (2 * cn)).2)])), ((nx 0), .inl (cI, 24, .inl (ow_nI S.1))), ((nx 5), .inl (cI, 24, .inl ((mp_out S.1 (2 * cn) (np_fill F 0 (2 * cn) (-1)) (2 * cn)).1))), ((nx 6), .inl (cI, 24, .inl g))]) (va_A [(aX, .inr (10, [.ref (nx 0), .ref (nx 1), .ref (nx 2), .ref (nx 3), .ref (nx 4), .ref (nx 5), .ref (nx 6), .int (nI cn), .int x8, .int x9, .int x10])), ((nx 0), .inl (cI, 24, .inl (ow_nI S.1))), ((nx 5), .inl (cI, 24, .inl F)), ((nx 6), .inl (cI, 24, .inl Z))] sz)) 0 0 (va_A [(aX, .inr (10, [.ref (nx 0), .ref (nx 1), .ref (nx 2), .ref (nx 3), .ref (nx 4), .ref (nx 5), .ref (nx 6), .int (nI cn), .int x8, .int x9, .int x10])), ((nx 0), .inl (cI, 24, .inl (ow_nI S.1))), ((nx 5), .inl (cI, 24, .inl F)), ((nx 6), .inl (cI, 24, .inl Z))] sz) := by
  refine Met.ofW (cc := cX7_markParts) (maxL := 7) (ret := none) (by decide) rfl ?_
  intro p e s m args below meth c s₁ B hml hv
  obtain ⟨rfl, hsz, hP, hK, hD0⟩ := hv
  have hx := B.exec
  have hb := B.bytes
  have hr := B.returns
  have hts := atoms_spec (ws := wg_X7_markParts) B.pre
  have hown : s.vm.findClass RX7 = some m.cls := findClass_of_methodNamed B.named
  have hlocks := B.notSynchronized
  subst hsz
  have hD := hD0.self (sz := s.heap.size)
  generalize hAe : va_A [(aX, .inr (10, [.ref (nx 0), .ref (nx 1), .ref (nx 2), .ref (nx 3), .ref (nx 4), .ref (nx 5), .ref (nx 6), .int (nI cn), .int x8, .int x9, .int x10])), ((nx 0), .inl (cI, 24, .inl (ow_nI S.1))), ((nx 5), .inl (cI, 24, .inl F)), ((nx 6), .inl (cI, 24, .inl Z))] s.heap.size = A at hD ⊢
  have hA : ∀ q : Nat, s.heap.size ≤ q → A q := fun q h => by rw [← hAe]; exact Or.inr h
  have hS : va_S A s.heap s.heap [] := va_S.rf
  have hP : va_P (dC, dI) vwCl [(aX, .inr (10, [.ref (nx 0), .ref (nx 1), .ref (nx 2), .ref (nx 3), .ref (nx 4), .ref (nx 5), .ref (nx 6), .int (nI cn), .int x8, .int x9, .int x10])), ((nx 0), .inl (cI, 24, .inl (ow_nI S.1))), ((nx 5), .inl (cI, 24, .inl F)), ((nx 6), .inl (cI, 24, .inl Z))] s.heap := hP
  have hl := lv_entry ([.ref aX]) (n := 7) (Nat.le_of_ble_eq_true rfl)
  rw [lg_entry_eq]
  generalize (lg_sl ([.ref aX]) ++ List.replicate (7 - (lg_sl ([.ref aX])).length) Slot.unset).toArray = ls at hl ⊢
  have hl : lv_has ls 7 [(0, .ref aX)] := hl
  refine ow_named (fun QQ hQQ => ?_)
  suffices key9 : ∀ (H : Heap) (locs : List Loc), va_P (dC, dI) vwCl [(aX, .inr (10, [.ref (nx 0), .ref (nx 1), .ref (nx 2), .ref (nx 3), .ref (nx 4), .ref (nx 5), .ref (nx 6), .int (nI cn), .int x8, .int x9, .int x10])), ((nx 0), .inl (cI, 24, .inl (ow_nI S.1))), ((nx 5), .inl (cI, 24, .inl F)), ((nx 6), .inl (cI, 24, .inl Z))] H → va_S A s.heap H locs → W p l e ({ frames := 2, cells := 0, slots := 0, locals := 46 } : Room) s m ([.ref aX] : List Value).toArray below meth c H locs 0 0 QQ (F0 m 0 ls []) from key9 s.heap [] hP hS
  intro H locs hP hS
  have L24 : ∀ (d i : Nat) (Z : Nat → Int32), i + d = 2 * cn → ∀ (H : Heap) (locs : List Loc) (ls : Array Slot), va_P (dC, dI) vwCl [(aX, .inr (10, [.ref (nx 0), .ref (nx 1), .ref (nx 2), .ref (nx 3), .ref (nx 4), .ref (nx 5), .ref (nx 6), .int (nI cn), .int x8, .int x9, .int (nI (mp_out S.1 (2 * cn) (np_fill F 0 (2 * cn) (-1)) i).2)])), ((nx 0), .inl (cI, 24, .inl (ow_nI S.1))), ((nx 5), .inl (cI, 24, .inl ((mp_out S.1 (2 * cn) (np_fill F 0 (2 * cn) (-1)) i).1))), ((nx 6), .inl (cI, 24, .inl Z))] H → va_D A [(aX, .inr (10, [.ref (nx 0), .ref (nx 1), .ref (nx 2), .ref (nx 3), .ref (nx 4), .ref (nx 5), .ref (nx 6), .int (nI cn), .int x8, .int x9, .int (nI (mp_out S.1 (2 * cn) (np_fill F 0 (2 * cn) (-1)) i).2)])), ((nx 0), .inl (cI, 24, .inl (ow_nI S.1))), ((nx 5), .inl (cI, 24, .inl ((mp_out S.1 (2 * cn) (np_fill F 0 (2 * cn) (-1)) i).1))), ((nx 6), .inl (cI, 24, .inl Z))] → va_S A s.heap H locs → lv_has ls 7 [(0, .ref aX), (1, .int (nI (2 * cn))), (2, .int (nI i))] → W p l e ({ frames := 2, cells := 0, slots := 0, locals := 46 } : Room) s m ([.ref aX] : List Value).toArray below meth c H locs 0 0 QQ (F0 m 24 ls []) := by
    intro d
    induction d with
    | zero =>
      intro i Z hi H locs ls hP hD hS hl
      have hie : i = 2 * cn := by omega
      refine lv_iload_n hx hb dgX7_markParts_24 rfl (lv_at hl 2 rfl) ?_
      refine lv_iload_n hx hb dgX7_markParts_25 rfl (lv_at hl 1 rfl) ?_
      refine lv_icmp_ge (tgt := 183) hx hb dgX7_markParts_26 (by decide) (fun _ => ?_) (fun c9 => absurd (nI_le (a := 2 * cn) (b := i) (by omega) (by omega)) c9)
      have hP : va_P (dC, dI) vwCl [(aX, .inr (10, [.ref (nx 0), .ref (nx 1), .ref (nx 2), .ref (nx 3), .ref (nx 4), .ref (nx 5), .ref (nx 6), .int (nI cn), .int x8, .int x9, .int (nI (mp_out S.1 (2 * cn) (np_fill F 0 (2 * cn) (-1)) (2 * cn)).2)])), ((nx 0), .inl (cI, 24, .inl (ow_nI S.1))), ((nx 5), .inl (cI, 24, .inl ((mp_out S.1 (2 * cn) (np_fill F 0 (2 * cn) (-1)) (2 * cn)).1))), ((nx 6), .inl (cI, 24, .inl Z))] H := by rw [hie] at hP; exact hP
      have hD : va_D A [(aX, .inr (10, [.ref (nx 0), .ref (nx 1), .ref (nx 2), .ref (nx 3), .ref (nx 4), .ref (nx 5), .ref (nx 6), .int (nI cn), .int x8, .int x9, .int (nI (mp_out S.1 (2 * cn) (np_fill F 0 (2 * cn) (-1)) (2 * cn)).2)])), ((nx 0), .inl (cI, 24, .inl (ow_nI S.1))), ((nx 5), .inl (cI, 24, .inl ((mp_out S.1 (2 * cn) (np_fill F 0 (2 * cn) (-1)) (2 * cn)).1))), ((nx 6), .inl (cI, 24, .inl Z))] := by rw [hie] at hD; exact hD
      rw [hQQ]
      exact W.vret hx hb hr (fun t ht hW => ⟨⟨Z, rfl, trivial, by rw [ht]; exact hP, hD⟩, hS.F ht⟩) hS.2.2 dgX7_markParts_183
    | succ d ih =>
      intro i Z hi H locs ls hP hD hS hl
      refine lv_iload_n hx hb dgX7_markParts_24 rfl (lv_at hl 2 rfl) ?_
      refine lv_iload_n hx hb dgX7_markParts_25 rfl (lv_at hl 1 rfl) ?_
      refine lv_icmp_ge (tgt := 183) hx hb dgX7_markParts_26 (by decide) (fun c9 => absurd c9 (nI_ge (a := i) (b := 2 * cn) (by omega) (by omega))) (fun _ => ?_)
      refine lv_aload_n hx hb dgX7_markParts_29 rfl (lv_at hl 0 rfl) ?_
      refine va_get (D := (dC, dI)) (ci := 10) (v := .ref (nx 5)) (C := RX7) (T := TX7) (N := 11) hx hb hts (fun _ h => List.mem_cons_of_mem _ (List.mem_append_left _ (List.mem_append_right _ h))) hown hK hP 0 rfl rfl 5 (by decide) (hts (.fieldLink RX7 27 "KnotHouse$Net" "part" "[I") (by decide +kernel)) (fun _ h9 => h9) rfl dgX7_markParts_30 ?_
      refine lv_iload_n hx hb dgX7_markParts_33 rfl (lv_at hl 2 rfl) ?_
      refine va_iald hx hb hK hP 2 0 rfl rfl (vp_in_nI (n := i) (N := 24) (by omega) (by decide)) dgX7_markParts_34 ?_
      refine ow_topi (y := ((mp_out S.1 (2 * cn) (np_fill F 0 (2 * cn) (-1)) i).1) i) (congrArg ((mp_out S.1 (2 * cn) (np_fill F 0 (2 * cn) (-1)) i).1) (nI_clamp (n := i) (Nat.lt_trans (m := 24) (by omega) (by decide)))) ?_
      refine lv_iconst (v := (-1)) hx hb dgX7_markParts_35 (by decide) ?_
      refine lv_icmp_eq (tgt := 42) hx hb dgX7_markParts_36 (by decide) (fun c1 => ?_) (fun c1 => ?_)
      · have hlE := mp_out_le S.1 (2 * cn) (np_fill F 0 (2 * cn) (-1)) i
        have hst : mp_out S.1 (2 * cn) (np_fill F 0 (2 * cn) (-1)) (i + 1) = ((mp_bfs S.1 (nI (mp_out S.1 (2 * cn) (np_fill F 0 (2 * cn) (-1)) i).2) (2 * cn) 0 (su (mp_out S.1 (2 * cn) (np_fill F 0 (2 * cn) (-1)) i).1 i (nI (mp_out S.1 (2 * cn) (np_fill F 0 (2 * cn) (-1)) i).2), (fun _ => i), 1)).1, (mp_out S.1 (2 * cn) (np_fill F 0 (2 * cn) (-1)) i).2 + 1) := if_pos c1
        have hFi := c1
        generalize hE : (mp_out S.1 (2 * cn) (np_fill F 0 (2 * cn) (-1)) i) = E at hP hD hst hlE hFi
        have hP : va_P (dC, dI) vwCl [(aX, .inr (10, [.ref (nx 0), .ref (nx 1), .ref (nx 2), .ref (nx 3), .ref (nx 4), .ref (nx 5), .ref (nx 6), .int (nI cn), .int x8, .int x9, .int (nI E.2)])), ((nx 0), .inl (cI, 24, .inl (ow_nI S.1))), ((nx 5), .inl (cI, 24, .inl E.1)), ((nx 6), .inl (cI, 24, .inl Z))] H := hP
        have hD : va_D A [(aX, .inr (10, [.ref (nx 0), .ref (nx 1), .ref (nx 2), .ref (nx 3), .ref (nx 4), .ref (nx 5), .ref (nx 6), .int (nI cn), .int x8, .int x9, .int (nI E.2)])), ((nx 0), .inl (cI, 24, .inl (ow_nI S.1))), ((nx 5), .inl (cI, 24, .inl E.1)), ((nx 6), .inl (cI, 24, .inl Z))] := hD
        generalize hR : mp_bfs S.1 (nI E.2) (2 * cn) 0 (su E.1 i (nI E.2), (fun _ => i), 1) = R at hst
        have K167 : ∀ (Z : Nat → Int32), ∀ (H : Heap) (locs : List Loc) (ls : Array Slot), va_P (dC, dI) vwCl [(aX, .inr (10, [.ref (nx 0), .ref (nx 1), .ref (nx 2), .ref (nx 3), .ref (nx 4), .ref (nx 5), .ref (nx 6), .int (nI cn), .int x8, .int x9, .int (nI E.2)])), ((nx 0), .inl (cI, 24, .inl (ow_nI S.1))), ((nx 5), .inl (cI, 24, .inl R.1)), ((nx 6), .inl (cI, 24, .inl Z))] H → va_D A [(aX, .inr (10, [.ref (nx 0), .ref (nx 1), .ref (nx 2), .ref (nx 3), .ref (nx 4), .ref (nx 5), .ref (nx 6), .int (nI cn), .int x8, .int x9, .int (nI E.2)])), ((nx 0), .inl (cI, 24, .inl (ow_nI S.1))), ((nx 5), .inl (cI, 24, .inl R.1)), ((nx 6), .inl (cI, 24, .inl Z))] → va_S A s.heap H locs → lv_has ls 7 [(0, .ref aX), (1, .int (nI (2 * cn))), (2, .int (nI i))] → W p l e ({ frames := 2, cells := 0, slots := 0, locals := 46 } : Room) s m ([.ref aX] : List Value).toArray below meth c H locs 0 0 QQ (F0 m 167 ls []) := by
          intro Z H locs ls hP hD hS hl
          refine lv_aload_n hx hb dgX7_markParts_167 rfl (lv_at hl 0 rfl) ?_
          refine lv_dup hx hb dgX7_markParts_168 rfl ?_
          refine va_get (D := (dC, dI)) (ci := 10) (v := .int (nI E.2)) (C := RX7) (T := TX7) (N := 11) hx hb hts (fun _ h => List.mem_cons_of_mem _ (List.mem_append_left _ (List.mem_append_right _ h))) hown hK hP 0 rfl rfl 10 (by decide) (hts (.fieldLink RX7 90 "KnotHouse$Net" "parts" "I") (by decide +kernel)) (fun _ h9 => h9) rfl dgX7_markParts_169 ?_
          refine lv_iconst (v := 1) hx hb dgX7_markParts_172 (by decide) ?_
          refine lv_iadd hx hb dgX7_markParts_173 ?_
          refine ow_topi (y := nI (E.2 + 1)) (nI_1 E.2) ?_
          refine va_put (D := (dC, dI)) (ci := 10) (v := .int (nI (E.2 + 1))) (ty := .int) (C := RX7) (T := TX7) (N := 11) hx hb hts (fun _ h => List.mem_cons_of_mem _ (List.mem_append_left _ (List.mem_append_right _ h))) tyX7 tyX7_ok nmX7 hown hK hP hD hS 0 rfl rfl 10 (by decide) (hts (.fieldLink RX7 90 "KnotHouse$Net" "parts" "I") (by decide +kernel)) (fun _ h9 => h9) rfl (by decide +kernel) rfl rfl (Nat.le_of_ble_eq_true rfl) dgX7_markParts_174 (fun H locs hP hD hS => ?_)
          have hP : va_P (dC, dI) vwCl [(aX, .inr (10, [.ref (nx 0), .ref (nx 1), .ref (nx 2), .ref (nx 3), .ref (nx 4), .ref (nx 5), .ref (nx 6), .int (nI cn), .int x8, .int x9, .int (nI (E.2 + 1))])), ((nx 0), .inl (cI, 24, .inl (ow_nI S.1))), ((nx 5), .inl (cI, 24, .inl R.1)), ((nx 6), .inl (cI, 24, .inl Z))] H := hP
          have hD : va_D A [(aX, .inr (10, [.ref (nx 0), .ref (nx 1), .ref (nx 2), .ref (nx 3), .ref (nx 4), .ref (nx 5), .ref (nx 6), .int (nI cn), .int x8, .int x9, .int (nI (E.2 + 1))])), ((nx 0), .inl (cI, 24, .inl (ow_nI S.1))), ((nx 5), .inl (cI, 24, .inl R.1)), ((nx 6), .inl (cI, 24, .inl Z))] := hD
          have hP : va_P (dC, dI) vwCl [(aX, .inr (10, [.ref (nx 0), .ref (nx 1), .ref (nx 2), .ref (nx 3), .ref (nx 4), .ref (nx 5), .ref (nx 6), .int (nI cn), .int x8, .int x9, .int (nI (mp_out S.1 (2 * cn) (np_fill F 0 (2 * cn) (-1)) (i + 1)).2)])), ((nx 0), .inl (cI, 24, .inl (ow_nI S.1))), ((nx 5), .inl (cI, 24, .inl ((mp_out S.1 (2 * cn) (np_fill F 0 (2 * cn) (-1)) (i + 1)).1))), ((nx 6), .inl (cI, 24, .inl Z))] H := by rw [hst]; exact hP
          have hD : va_D A [(aX, .inr (10, [.ref (nx 0), .ref (nx 1), .ref (nx 2), .ref (nx 3), .ref (nx 4), .ref (nx 5), .ref (nx 6), .int (nI cn), .int x8, .int x9, .int (nI (mp_out S.1 (2 * cn) (np_fill F 0 (2 * cn) (-1)) (i + 1)).2)])), ((nx 0), .inl (cI, 24, .inl (ow_nI S.1))), ((nx 5), .inl (cI, 24, .inl ((mp_out S.1 (2 * cn) (np_fill F 0 (2 * cn) (-1)) (i + 1)).1))), ((nx 6), .inl (cI, 24, .inl Z))] := by rw [hst]; exact hD
          refine lv_iinc (v := nI (i + 1)) (lv' := [(2, .int (nI (i + 1))), (0, .ref aX), (1, .int (nI (2 * cn)))]) hx hb dgX7_markParts_177 hl (k := 2) rfl (nI_1 i) (by decide) rfl (fun ls hl => ?_)
          refine lv_goto (tgt := 24) hx hb dgX7_markParts_180 (by decide) ?_
          exact ih (i + 1) Z (by omega) H locs ls hP hD hS (lv_sub hl [1, 2, 0] rfl)
        have L64 : ∀ (d j : Nat) (t : ow_PQ) (Z : Nat → Int32), j + d = 2 * cn → mp_ok (2 * cn) t → (∀ a, a < t.2.2 → Z a = nI (t.2.1 a)) → mp_bfs S.1 (nI E.2) d j t = R → ∀ (H : Heap) (locs : List Loc) (ls : Array Slot), va_P (dC, dI) vwCl [(aX, .inr (10, [.ref (nx 0), .ref (nx 1), .ref (nx 2), .ref (nx 3), .ref (nx 4), .ref (nx 5), .ref (nx 6), .int (nI cn), .int x8, .int x9, .int (nI E.2)])), ((nx 0), .inl (cI, 24, .inl (ow_nI S.1))), ((nx 5), .inl (cI, 24, .inl t.1)), ((nx 6), .inl (cI, 24, .inl Z))] H → va_D A [(aX, .inr (10, [.ref (nx 0), .ref (nx 1), .ref (nx 2), .ref (nx 3), .ref (nx 4), .ref (nx 5), .ref (nx 6), .int (nI cn), .int x8, .int x9, .int (nI E.2)])), ((nx 0), .inl (cI, 24, .inl (ow_nI S.1))), ((nx 5), .inl (cI, 24, .inl t.1)), ((nx 6), .inl (cI, 24, .inl Z))] → va_S A s.heap H locs → lv_has ls 7 [(0, .ref aX), (1, .int (nI (2 * cn))), (2, .int (nI i)), (3, .int (nI t.2.2)), (4, .int (nI j))] → W p l e ({ frames := 2, cells := 0, slots := 0, locals := 46 } : Room) s m ([.ref aX] : List Value).toArray below meth c H locs 0 0 QQ (F0 m 64 ls []) := by
          intro d2
          induction d2 with
          | zero =>
            intro j t Z hj hok hZ hf H locs ls hP hD hS hl
            have hcn : t.2.2 ≤ 2 * cn := Nat.le_trans (Nat.le_add_right _ _) hok.2
            refine lv_iload hx hb dgX7_markParts_64 (lv_at hl 4 rfl) ?_
            refine lv_iload_n hx hb dgX7_markParts_66 rfl (lv_at hl 3 rfl) ?_
            refine lv_icmp_ge (tgt := 167) hx hb dgX7_markParts_67 (by decide) (fun _ => ?_) (fun c9 => absurd (nI_le (a := t.2.2) (b := j) (by omega) (by omega)) c9)
            have hP : va_P (dC, dI) vwCl [(aX, .inr (10, [.ref (nx 0), .ref (nx 1), .ref (nx 2), .ref (nx 3), .ref (nx 4), .ref (nx 5), .ref (nx 6), .int (nI cn), .int x8, .int x9, .int (nI E.2)])), ((nx 0), .inl (cI, 24, .inl (ow_nI S.1))), ((nx 5), .inl (cI, 24, .inl R.1)), ((nx 6), .inl (cI, 24, .inl Z))] H := by rw [← hf]; exact hP
            have hD : va_D A [(aX, .inr (10, [.ref (nx 0), .ref (nx 1), .ref (nx 2), .ref (nx 3), .ref (nx 4), .ref (nx 5), .ref (nx 6), .int (nI cn), .int x8, .int x9, .int (nI E.2)])), ((nx 0), .inl (cI, 24, .inl (ow_nI S.1))), ((nx 5), .inl (cI, 24, .inl R.1)), ((nx 6), .inl (cI, 24, .inl Z))] := by rw [← hf]; exact hD
            exact K167 Z H locs ls hP hD hS (lv_sub hl [0, 1, 2] rfl)
          | succ d2 ih2 =>
            intro j t Z hj hok hZ hf H locs ls hP hD hS hl
            have hcn : t.2.2 ≤ 2 * cn := Nat.le_trans (Nat.le_add_right _ _) hok.2
            rcases Nat.lt_or_ge j t.2.2 with hlt | hge
            · have hq := hok.1 j hlt
              generalize hqe : t.2.1 j = q at hq
              have hZj : Z j = nI q := (hZ j hlt).trans (congrArg nI hqe)
              have hf2 : mp_bfs S.1 (nI E.2) d2 (j + 1) (mp_add (nI E.2) (mp_add (nI E.2) t (S.1 q)) (mt q)) = R := by rw [← hf, ← hqe]; exact (if_pos hlt).symm
              have hbq := hN q hq
              have hm := mt_lt hq
              have hok1 := mp_add_ok (k := E.2) (by omega) hok hbq
              have hok2 := mp_add_ok (k := E.2) (by omega) hok1 hm
              refine lv_iload hx hb dgX7_markParts_64 (lv_at hl 4 rfl) ?_
              refine lv_iload_n hx hb dgX7_markParts_66 rfl (lv_at hl 3 rfl) ?_
              refine lv_icmp_ge (tgt := 167) hx hb dgX7_markParts_67 (by decide) (fun c9 => absurd c9 (nI_ge (a := j) (b := t.2.2) hlt (by omega))) (fun _ => ?_)
              refine lv_aload_n hx hb dgX7_markParts_70 rfl (lv_at hl 0 rfl) ?_
              refine va_get (D := (dC, dI)) (ci := 10) (v := .ref (nx 0)) (C := RX7) (T := TX7) (N := 11) hx hb hts (fun _ h => List.mem_cons_of_mem _ (List.mem_append_left _ (List.mem_append_right _ h))) hown hK hP 0 rfl rfl 0 (by decide) (hts (.fieldLink RX7 9 "KnotHouse$Net" "next" "[I") (by decide +kernel)) (fun _ h9 => h9) rfl dgX7_markParts_71 ?_
              refine lv_aload_n hx hb dgX7_markParts_74 rfl (lv_at hl 0 rfl) ?_
              refine va_get (D := (dC, dI)) (ci := 10) (v := .ref (nx 6)) (C := RX7) (T := TX7) (N := 11) hx hb hts (fun _ h => List.mem_cons_of_mem _ (List.mem_append_left _ (List.mem_append_right _ h))) hown hK hP 0 rfl rfl 6 (by decide) (hts (.fieldLink RX7 30 "KnotHouse$Net" "queue" "[I") (by decide +kernel)) (fun _ h9 => h9) rfl dgX7_markParts_75 ?_
              refine lv_iload hx hb dgX7_markParts_78 (lv_at hl 4 rfl) ?_
              refine va_iald hx hb hK hP 3 0 rfl rfl (vp_in_nI (n := j) (N := 24) (by omega) (by decide)) dgX7_markParts_80 ?_
              refine ow_topi (y := nI q) ((congrArg Z (nI_clamp (n := j) (Nat.lt_trans (m := 24) (by omega) (by decide)))).trans (hZj)) ?_
              refine va_iald hx hb hK hP 1 0 rfl rfl (vp_in_nI (n := q) (N := 24) (by omega) (by decide)) dgX7_markParts_81 ?_
              refine ow_topi (y := nI (S.1 q)) (ow_nI_at S.1 (Nat.lt_trans (m := 24) (by omega) (by decide))) ?_
              refine lv_istore (lv' := [(5, .int (nI (S.1 q))), (0, .ref aX), (1, .int (nI (2 * cn))), (2, .int (nI i)), (3, .int (nI t.2.2)), (4, .int (nI j))]) hx hb dgX7_markParts_82 hl (by decide) rfl (fun ls hl => ?_)
              refine lv_aload_n hx hb dgX7_markParts_84 rfl (lv_at hl 1 rfl) ?_
              refine va_get (D := (dC, dI)) (ci := 10) (v := .ref (nx 6)) (C := RX7) (T := TX7) (N := 11) hx hb hts (fun _ h => List.mem_cons_of_mem _ (List.mem_append_left _ (List.mem_append_right _ h))) hown hK hP 0 rfl rfl 6 (by decide) (hts (.fieldLink RX7 30 "KnotHouse$Net" "queue" "[I") (by decide +kernel)) (fun _ h9 => h9) rfl dgX7_markParts_85 ?_
              refine lv_iload hx hb dgX7_markParts_88 (lv_at hl 5 rfl) ?_
              refine va_iald hx hb hK hP 3 0 rfl rfl (vp_in_nI (n := j) (N := 24) (by omega) (by decide)) dgX7_markParts_90 ?_
              refine ow_topi (y := nI q) ((congrArg Z (nI_clamp (n := j) (Nat.lt_trans (m := 24) (by omega) (by decide)))).trans (hZj)) ?_
              refine lv_iconst (v := 1) hx hb dgX7_markParts_91 (by decide) ?_
              refine lv_ixor hx hb dgX7_markParts_92 ?_
              refine ow_topi (y := nI (mt q)) (mt_xor (by omega)) ?_
              refine lv_istore (lv' := [(6, .int (nI (mt q))), (5, .int (nI (S.1 q))), (0, .ref aX), (1, .int (nI (2 * cn))), (2, .int (nI i)), (3, .int (nI t.2.2)), (4, .int (nI j))]) hx hb dgX7_markParts_93 hl (by decide) rfl (fun ls hl => ?_)
              have K128 : ∀ (t1 : ow_PQ) (Z : Nat → Int32), mp_ok (2 * cn) t1 → mp_ok (2 * cn) (mp_add (nI E.2) t1 (mt q)) → (∀ a, a < t1.2.2 → Z a = nI (t1.2.1 a)) → mp_bfs S.1 (nI E.2) d2 (j + 1) (mp_add (nI E.2) t1 (mt q)) = R → ∀ (H : Heap) (locs : List Loc) (ls : Array Slot), va_P (dC, dI) vwCl [(aX, .inr (10, [.ref (nx 0), .ref (nx 1), .ref (nx 2), .ref (nx 3), .ref (nx 4), .ref (nx 5), .ref (nx 6), .int (nI cn), .int x8, .int x9, .int (nI E.2)])), ((nx 0), .inl (cI, 24, .inl (ow_nI S.1))), ((nx 5), .inl (cI, 24, .inl t1.1)), ((nx 6), .inl (cI, 24, .inl Z))] H → va_D A [(aX, .inr (10, [.ref (nx 0), .ref (nx 1), .ref (nx 2), .ref (nx 3), .ref (nx 4), .ref (nx 5), .ref (nx 6), .int (nI cn), .int x8, .int x9, .int (nI E.2)])), ((nx 0), .inl (cI, 24, .inl (ow_nI S.1))), ((nx 5), .inl (cI, 24, .inl t1.1)), ((nx 6), .inl (cI, 24, .inl Z))] → va_S A s.heap H locs → lv_has ls 7 [(0, .ref aX), (1, .int (nI (2 * cn))), (2, .int (nI i)), (3, .int (nI t1.2.2)), (4, .int (nI j)), (6, .int (nI (mt q)))] → W p l e ({ frames := 2, cells := 0, slots := 0, locals := 46 } : Room) s m ([.ref aX] : List Value).toArray below meth c H locs 0 0 QQ (F0 m 128 ls []) := by
                intro t1 Z hok3 hok4 hZ1 hf3 H locs ls hP hD hS hl
                have hcn1 : t1.2.2 ≤ 2 * cn := Nat.le_trans (Nat.le_add_right _ _) hok3.2
                rcases Decidable.em (t1.1 (mt q) = -1) with hu | hu
                · have hrm := mp_add_room hok3 hm hu
                  have ha : mp_add (nI E.2) t1 (mt q) = (su t1.1 (mt q) (nI E.2), nu t1.2.1 t1.2.2 (mt q), t1.2.2 + 1) := if_pos hu
                  rw [ha] at hf3 hok4
                  refine lv_aload_n hx hb dgX7_markParts_128 rfl (lv_at hl 0 rfl) ?_
                  refine va_get (D := (dC, dI)) (ci := 10) (v := .ref (nx 5)) (C := RX7) (T := TX7) (N := 11) hx hb hts (fun _ h => List.mem_cons_of_mem _ (List.mem_append_left _ (List.mem_append_right _ h))) hown hK hP 0 rfl rfl 5 (by decide) (hts (.fieldLink RX7 27 "KnotHouse$Net" "part" "[I") (by decide +kernel)) (fun _ h9 => h9) rfl dgX7_markParts_129 ?_
                  refine lv_iload hx hb dgX7_markParts_132 (lv_at hl 5 rfl) ?_
                  refine va_iald hx hb hK hP 2 0 rfl rfl (vp_in_nI (n := mt q) (N := 24) (by omega) (by decide)) dgX7_markParts_134 ?_
                  refine ow_topi (y := t1.1 (mt q)) (congrArg t1.1 (nI_clamp (n := mt q) (Nat.lt_trans (m := 24) (by omega) (by decide)))) ?_
                  refine lv_iconst (v := (-1)) hx hb dgX7_markParts_135 (by decide) ?_
                  refine lv_icmp_ne (tgt := 161) hx hb dgX7_markParts_136 (by decide) (fun c9 => absurd c9 (not_not_intro hu)) (fun _ => ?_)
                  refine lv_aload_n hx hb dgX7_markParts_139 rfl (lv_at hl 0 rfl) ?_
                  refine va_get (D := (dC, dI)) (ci := 10) (v := .ref (nx 5)) (C := RX7) (T := TX7) (N := 11) hx hb hts (fun _ h => List.mem_cons_of_mem _ (List.mem_append_left _ (List.mem_append_right _ h))) hown hK hP 0 rfl rfl 5 (by decide) (hts (.fieldLink RX7 27 "KnotHouse$Net" "part" "[I") (by decide +kernel)) (fun _ h9 => h9) rfl dgX7_markParts_140 ?_
                  refine lv_iload hx hb dgX7_markParts_143 (lv_at hl 5 rfl) ?_
                  refine lv_aload_n hx hb dgX7_markParts_145 rfl (lv_at hl 0 rfl) ?_
                  refine va_get (D := (dC, dI)) (ci := 10) (v := .int (nI E.2)) (C := RX7) (T := TX7) (N := 11) hx hb hts (fun _ h => List.mem_cons_of_mem _ (List.mem_append_left _ (List.mem_append_right _ h))) hown hK hP 0 rfl rfl 10 (by decide) (hts (.fieldLink RX7 90 "KnotHouse$Net" "parts" "I") (by decide +kernel)) (fun _ h9 => h9) rfl dgX7_markParts_146 ?_
                  refine ow_iastF (j := mt q) (x := nI E.2) hx hb hK hP hD hS 2 0 rfl rfl (by omega) (by decide) dgX7_markParts_149 (fun H locs hP hD hS => ?_)
                  have hP : va_P (dC, dI) vwCl [(aX, .inr (10, [.ref (nx 0), .ref (nx 1), .ref (nx 2), .ref (nx 3), .ref (nx 4), .ref (nx 5), .ref (nx 6), .int (nI cn), .int x8, .int x9, .int (nI E.2)])), ((nx 0), .inl (cI, 24, .inl (ow_nI S.1))), ((nx 5), .inl (cI, 24, .inl (su t1.1 (mt q) (nI E.2)))), ((nx 6), .inl (cI, 24, .inl Z))] H := hP
                  have hD : va_D A [(aX, .inr (10, [.ref (nx 0), .ref (nx 1), .ref (nx 2), .ref (nx 3), .ref (nx 4), .ref (nx 5), .ref (nx 6), .int (nI cn), .int x8, .int x9, .int (nI E.2)])), ((nx 0), .inl (cI, 24, .inl (ow_nI S.1))), ((nx 5), .inl (cI, 24, .inl (su t1.1 (mt q) (nI E.2)))), ((nx 6), .inl (cI, 24, .inl Z))] := hD
                  refine lv_aload_n hx hb dgX7_markParts_150 rfl (lv_at hl 0 rfl) ?_
                  refine va_get (D := (dC, dI)) (ci := 10) (v := .ref (nx 6)) (C := RX7) (T := TX7) (N := 11) hx hb hts (fun _ h => List.mem_cons_of_mem _ (List.mem_append_left _ (List.mem_append_right _ h))) hown hK hP 0 rfl rfl 6 (by decide) (hts (.fieldLink RX7 30 "KnotHouse$Net" "queue" "[I") (by decide +kernel)) (fun _ h9 => h9) rfl dgX7_markParts_151 ?_
                  refine lv_iload_n hx hb dgX7_markParts_154 rfl (lv_at hl 3 rfl) ?_
                  refine lv_iload hx hb dgX7_markParts_155 (lv_at hl 5 rfl) ?_
                  refine ow_iastF (j := t1.2.2) (x := nI (mt q)) hx hb hK hP hD hS 3 0 rfl rfl (by omega) (by decide) dgX7_markParts_157 (fun H locs hP hD hS => ?_)
                  have hP : va_P (dC, dI) vwCl [(aX, .inr (10, [.ref (nx 0), .ref (nx 1), .ref (nx 2), .ref (nx 3), .ref (nx 4), .ref (nx 5), .ref (nx 6), .int (nI cn), .int x8, .int x9, .int (nI E.2)])), ((nx 0), .inl (cI, 24, .inl (ow_nI S.1))), ((nx 5), .inl (cI, 24, .inl (su t1.1 (mt q) (nI E.2)))), ((nx 6), .inl (cI, 24, .inl (su Z t1.2.2 (nI (mt q)))))] H := hP
                  have hD : va_D A [(aX, .inr (10, [.ref (nx 0), .ref (nx 1), .ref (nx 2), .ref (nx 3), .ref (nx 4), .ref (nx 5), .ref (nx 6), .int (nI cn), .int x8, .int x9, .int (nI E.2)])), ((nx 0), .inl (cI, 24, .inl (ow_nI S.1))), ((nx 5), .inl (cI, 24, .inl (su t1.1 (mt q) (nI E.2)))), ((nx 6), .inl (cI, 24, .inl (su Z t1.2.2 (nI (mt q)))))] := hD
                  refine lv_iinc (v := nI (t1.2.2 + 1)) (lv' := [(3, .int (nI (t1.2.2 + 1))), (0, .ref aX), (1, .int (nI (2 * cn))), (2, .int (nI i)), (4, .int (nI j)), (6, .int (nI (mt q)))]) hx hb dgX7_markParts_158 hl (k := 3) rfl (nI_1 t1.2.2) (by decide) rfl (fun ls hl => ?_)
                  refine lv_iinc (v := nI (j + 1)) (lv' := [(4, .int (nI (j + 1))), (3, .int (nI (t1.2.2 + 1))), (0, .ref aX), (1, .int (nI (2 * cn))), (2, .int (nI i)), (6, .int (nI (mt q)))]) hx hb dgX7_markParts_161 hl (k := 4) rfl (nI_1 j) (by decide) rfl (fun ls hl => ?_)
                  refine lv_goto (tgt := 64) hx hb dgX7_markParts_164 (by decide) ?_
                  exact ih2 (j + 1) (su t1.1 (mt q) (nI E.2), nu t1.2.1 t1.2.2 (mt q), t1.2.2 + 1) _ (by omega) hok4 (zq_step hZ1) hf3 H locs ls hP hD hS (lv_sub hl [2, 3, 4, 1, 0] rfl)
                · have ha : mp_add (nI E.2) t1 (mt q) = t1 := if_neg hu
                  rw [ha] at hf3 hok4
                  refine lv_aload_n hx hb dgX7_markParts_128 rfl (lv_at hl 0 rfl) ?_
                  refine va_get (D := (dC, dI)) (ci := 10) (v := .ref (nx 5)) (C := RX7) (T := TX7) (N := 11) hx hb hts (fun _ h => List.mem_cons_of_mem _ (List.mem_append_left _ (List.mem_append_right _ h))) hown hK hP 0 rfl rfl 5 (by decide) (hts (.fieldLink RX7 27 "KnotHouse$Net" "part" "[I") (by decide +kernel)) (fun _ h9 => h9) rfl dgX7_markParts_129 ?_
                  refine lv_iload hx hb dgX7_markParts_132 (lv_at hl 5 rfl) ?_
                  refine va_iald hx hb hK hP 2 0 rfl rfl (vp_in_nI (n := mt q) (N := 24) (by omega) (by decide)) dgX7_markParts_134 ?_
                  refine ow_topi (y := t1.1 (mt q)) (congrArg t1.1 (nI_clamp (n := mt q) (Nat.lt_trans (m := 24) (by omega) (by decide)))) ?_
                  refine lv_iconst (v := (-1)) hx hb dgX7_markParts_135 (by decide) ?_
                  refine lv_icmp_ne (tgt := 161) hx hb dgX7_markParts_136 (by decide) (fun _ => ?_) (fun c9 => absurd c9 (hu))
                  refine lv_iinc (v := nI (j + 1)) (lv' := [(4, .int (nI (j + 1))), (0, .ref aX), (1, .int (nI (2 * cn))), (2, .int (nI i)), (3, .int (nI t1.2.2)), (6, .int (nI (mt q)))]) hx hb dgX7_markParts_161 hl (k := 4) rfl (nI_1 j) (by decide) rfl (fun ls hl => ?_)
                  refine lv_goto (tgt := 64) hx hb dgX7_markParts_164 (by decide) ?_
                  exact ih2 (j + 1) t1 Z (by omega) hok3 hZ1 hf3 H locs ls hP hD hS (lv_sub hl [1, 2, 3, 4, 0] rfl)
              rcases Decidable.em (t.1 (S.1 q) = -1) with hu | hu
              · have hrm := mp_add_room hok hbq hu
                have ha : mp_add (nI E.2) t (S.1 q) = (su t.1 (S.1 q) (nI E.2), nu t.2.1 t.2.2 (S.1 q), t.2.2 + 1) := if_pos hu
                rw [ha] at hf2 hok1 hok2
                refine lv_aload_n hx hb dgX7_markParts_95 rfl (lv_at hl 2 rfl) ?_
                refine va_get (D := (dC, dI)) (ci := 10) (v := .ref (nx 5)) (C := RX7) (T := TX7) (N := 11) hx hb hts (fun _ h => List.mem_cons_of_mem _ (List.mem_append_left _ (List.mem_append_right _ h))) hown hK hP 0 rfl rfl 5 (by decide) (hts (.fieldLink RX7 27 "KnotHouse$Net" "part" "[I") (by decide +kernel)) (fun _ h9 => h9) rfl dgX7_markParts_96 ?_
                refine lv_iload hx hb dgX7_markParts_99 (lv_at hl 1 rfl) ?_
                refine va_iald hx hb hK hP 2 0 rfl rfl (vp_in_nI (n := S.1 q) (N := 24) (by omega) (by decide)) dgX7_markParts_101 ?_
                refine ow_topi (y := t.1 (S.1 q)) (congrArg t.1 (nI_clamp (n := S.1 q) (Nat.lt_trans (m := 24) (by omega) (by decide)))) ?_
                refine lv_iconst (v := (-1)) hx hb dgX7_markParts_102 (by decide) ?_
                refine lv_icmp_ne (tgt := 128) hx hb dgX7_markParts_103 (by decide) (fun c9 => absurd c9 (not_not_intro hu)) (fun _ => ?_)
                refine lv_aload_n hx hb dgX7_markParts_106 rfl (lv_at hl 2 rfl) ?_
                refine va_get (D := (dC, dI)) (ci := 10) (v := .ref (nx 5)) (C := RX7) (T := TX7) (N := 11) hx hb hts (fun _ h => List.mem_cons_of_mem _ (List.mem_append_left _ (List.mem_append_right _ h))) hown hK hP 0 rfl rfl 5 (by decide) (hts (.fieldLink RX7 27 "KnotHouse$Net" "part" "[I") (by decide +kernel)) (fun _ h9 => h9) rfl dgX7_markParts_107 ?_
                refine lv_iload hx hb dgX7_markParts_110 (lv_at hl 1 rfl) ?_
                refine lv_aload_n hx hb dgX7_markParts_112 rfl (lv_at hl 2 rfl) ?_
                refine va_get (D := (dC, dI)) (ci := 10) (v := .int (nI E.2)) (C := RX7) (T := TX7) (N := 11) hx hb hts (fun _ h => List.mem_cons_of_mem _ (List.mem_append_left _ (List.mem_append_right _ h))) hown hK hP 0 rfl rfl 10 (by decide) (hts (.fieldLink RX7 90 "KnotHouse$Net" "parts" "I") (by decide +kernel)) (fun _ h9 => h9) rfl dgX7_markParts_113 ?_
                refine ow_iastF (j := S.1 q) (x := nI E.2) hx hb hK hP hD hS 2 0 rfl rfl (by omega) (by decide) dgX7_markParts_116 (fun H locs hP hD hS => ?_)
                have hP : va_P (dC, dI) vwCl [(aX, .inr (10, [.ref (nx 0), .ref (nx 1), .ref (nx 2), .ref (nx 3), .ref (nx 4), .ref (nx 5), .ref (nx 6), .int (nI cn), .int x8, .int x9, .int (nI E.2)])), ((nx 0), .inl (cI, 24, .inl (ow_nI S.1))), ((nx 5), .inl (cI, 24, .inl (su t.1 (S.1 q) (nI E.2)))), ((nx 6), .inl (cI, 24, .inl Z))] H := hP
                have hD : va_D A [(aX, .inr (10, [.ref (nx 0), .ref (nx 1), .ref (nx 2), .ref (nx 3), .ref (nx 4), .ref (nx 5), .ref (nx 6), .int (nI cn), .int x8, .int x9, .int (nI E.2)])), ((nx 0), .inl (cI, 24, .inl (ow_nI S.1))), ((nx 5), .inl (cI, 24, .inl (su t.1 (S.1 q) (nI E.2)))), ((nx 6), .inl (cI, 24, .inl Z))] := hD
                refine lv_aload_n hx hb dgX7_markParts_117 rfl (lv_at hl 2 rfl) ?_
                refine va_get (D := (dC, dI)) (ci := 10) (v := .ref (nx 6)) (C := RX7) (T := TX7) (N := 11) hx hb hts (fun _ h => List.mem_cons_of_mem _ (List.mem_append_left _ (List.mem_append_right _ h))) hown hK hP 0 rfl rfl 6 (by decide) (hts (.fieldLink RX7 30 "KnotHouse$Net" "queue" "[I") (by decide +kernel)) (fun _ h9 => h9) rfl dgX7_markParts_118 ?_
                refine lv_iload_n hx hb dgX7_markParts_121 rfl (lv_at hl 5 rfl) ?_
                refine lv_iload hx hb dgX7_markParts_122 (lv_at hl 1 rfl) ?_
                refine ow_iastF (j := t.2.2) (x := nI (S.1 q)) hx hb hK hP hD hS 3 0 rfl rfl (by omega) (by decide) dgX7_markParts_124 (fun H locs hP hD hS => ?_)
                have hP : va_P (dC, dI) vwCl [(aX, .inr (10, [.ref (nx 0), .ref (nx 1), .ref (nx 2), .ref (nx 3), .ref (nx 4), .ref (nx 5), .ref (nx 6), .int (nI cn), .int x8, .int x9, .int (nI E.2)])), ((nx 0), .inl (cI, 24, .inl (ow_nI S.1))), ((nx 5), .inl (cI, 24, .inl (su t.1 (S.1 q) (nI E.2)))), ((nx 6), .inl (cI, 24, .inl (su Z t.2.2 (nI (S.1 q)))))] H := hP
                have hD : va_D A [(aX, .inr (10, [.ref (nx 0), .ref (nx 1), .ref (nx 2), .ref (nx 3), .ref (nx 4), .ref (nx 5), .ref (nx 6), .int (nI cn), .int x8, .int x9, .int (nI E.2)])), ((nx 0), .inl (cI, 24, .inl (ow_nI S.1))), ((nx 5), .inl (cI, 24, .inl (su t.1 (S.1 q) (nI E.2)))), ((nx 6), .inl (cI, 24, .inl (su Z t.2.2 (nI (S.1 q)))))] := hD
                refine lv_iinc (v := nI (t.2.2 + 1)) (lv' := [(3, .int (nI (t.2.2 + 1))), (6, .int (nI (mt q))), (5, .int (nI (S.1 q))), (0, .ref aX), (1, .int (nI (2 * cn))), (2, .int (nI i)), (4, .int (nI j))]) hx hb dgX7_markParts_125 hl (k := 5) rfl (nI_1 t.2.2) (by decide) rfl (fun ls hl => ?_)
                exact K128 (su t.1 (S.1 q) (nI E.2), nu t.2.1 t.2.2 (S.1 q), t.2.2 + 1) _ hok1 hok2 (zq_step hZ) hf2 H locs ls hP hD hS (lv_sub hl [3, 4, 5, 0, 6, 1] rfl)
              · have ha : mp_add (nI E.2) t (S.1 q) = t := if_neg hu
                rw [ha] at hf2 hok1 hok2
                refine lv_aload_n hx hb dgX7_markParts_95 rfl (lv_at hl 2 rfl) ?_
                refine va_get (D := (dC, dI)) (ci := 10) (v := .ref (nx 5)) (C := RX7) (T := TX7) (N := 11) hx hb hts (fun _ h => List.mem_cons_of_mem _ (List.mem_append_left _ (List.mem_append_right _ h))) hown hK hP 0 rfl rfl 5 (by decide) (hts (.fieldLink RX7 27 "KnotHouse$Net" "part" "[I") (by decide +kernel)) (fun _ h9 => h9) rfl dgX7_markParts_96 ?_
                refine lv_iload hx hb dgX7_markParts_99 (lv_at hl 1 rfl) ?_
                refine va_iald hx hb hK hP 2 0 rfl rfl (vp_in_nI (n := S.1 q) (N := 24) (by omega) (by decide)) dgX7_markParts_101 ?_
                refine ow_topi (y := t.1 (S.1 q)) (congrArg t.1 (nI_clamp (n := S.1 q) (Nat.lt_trans (m := 24) (by omega) (by decide)))) ?_
                refine lv_iconst (v := (-1)) hx hb dgX7_markParts_102 (by decide) ?_
                refine lv_icmp_ne (tgt := 128) hx hb dgX7_markParts_103 (by decide) (fun _ => ?_) (fun c9 => absurd c9 (hu))
                exact K128 t Z hok hok2 hZ hf2 H locs ls hP hD hS (lv_sub hl [2, 3, 4, 5, 6, 0] rfl)
            · refine lv_iload hx hb dgX7_markParts_64 (lv_at hl 4 rfl) ?_
              refine lv_iload_n hx hb dgX7_markParts_66 rfl (lv_at hl 3 rfl) ?_
              refine lv_icmp_ge (tgt := 167) hx hb dgX7_markParts_67 (by decide) (fun _ => ?_) (fun c9 => absurd (nI_le (a := t.2.2) (b := j) hge (by omega)) c9)
              have hfR : t = R := by rw [← hf]; exact (if_neg (by omega)).symm
              have hP : va_P (dC, dI) vwCl [(aX, .inr (10, [.ref (nx 0), .ref (nx 1), .ref (nx 2), .ref (nx 3), .ref (nx 4), .ref (nx 5), .ref (nx 6), .int (nI cn), .int x8, .int x9, .int (nI E.2)])), ((nx 0), .inl (cI, 24, .inl (ow_nI S.1))), ((nx 5), .inl (cI, 24, .inl R.1)), ((nx 6), .inl (cI, 24, .inl Z))] H := by rw [← hfR]; exact hP
              have hD : va_D A [(aX, .inr (10, [.ref (nx 0), .ref (nx 1), .ref (nx 2), .ref (nx 3), .ref (nx 4), .ref (nx 5), .ref (nx 6), .int (nI cn), .int x8, .int x9, .int (nI E.2)])), ((nx 0), .inl (cI, 24, .inl (ow_nI S.1))), ((nx 5), .inl (cI, 24, .inl R.1)), ((nx 6), .inl (cI, 24, .inl Z))] := by rw [← hfR]; exact hD
              exact K167 Z H locs ls hP hD hS (lv_sub hl [0, 1, 2] rfl)
        refine lv_iconst (v := 1) hx hb dgX7_markParts_42 (by decide) ?_
        refine ow_topi (y := nI 1) (by decide) ?_
        refine lv_istore_n (lv' := [(3, .int (nI 1)), (0, .ref aX), (1, .int (nI (2 * cn))), (2, .int (nI i))]) hx hb dgX7_markParts_43 rfl hl (by decide) rfl (fun ls hl => ?_)
        refine lv_aload_n hx hb dgX7_markParts_44 rfl (lv_at hl 1 rfl) ?_
        refine va_get (D := (dC, dI)) (ci := 10) (v := .ref (nx 6)) (C := RX7) (T := TX7) (N := 11) hx hb hts (fun _ h => List.mem_cons_of_mem _ (List.mem_append_left _ (List.mem_append_right _ h))) hown hK hP 0 rfl rfl 6 (by decide) (hts (.fieldLink RX7 30 "KnotHouse$Net" "queue" "[I") (by decide +kernel)) (fun _ h9 => h9) rfl dgX7_markParts_45 ?_
        refine lv_iconst (v := 0) hx hb dgX7_markParts_48 (by decide) ?_
        refine ow_topi (y := nI 0) (by decide) ?_
        refine lv_iload_n hx hb dgX7_markParts_49 rfl (lv_at hl 3 rfl) ?_
        refine ow_iastF (j := 0) (x := nI i) hx hb hK hP hD hS 3 0 rfl rfl (by decide) (by decide) dgX7_markParts_50 (fun H locs hP hD hS => ?_)
        have hP : va_P (dC, dI) vwCl [(aX, .inr (10, [.ref (nx 0), .ref (nx 1), .ref (nx 2), .ref (nx 3), .ref (nx 4), .ref (nx 5), .ref (nx 6), .int (nI cn), .int x8, .int x9, .int (nI E.2)])), ((nx 0), .inl (cI, 24, .inl (ow_nI S.1))), ((nx 5), .inl (cI, 24, .inl E.1)), ((nx 6), .inl (cI, 24, .inl (su Z 0 (nI i))))] H := hP
        have hD : va_D A [(aX, .inr (10, [.ref (nx 0), .ref (nx 1), .ref (nx 2), .ref (nx 3), .ref (nx 4), .ref (nx 5), .ref (nx 6), .int (nI cn), .int x8, .int x9, .int (nI E.2)])), ((nx 0), .inl (cI, 24, .inl (ow_nI S.1))), ((nx 5), .inl (cI, 24, .inl E.1)), ((nx 6), .inl (cI, 24, .inl (su Z 0 (nI i))))] := hD
        refine lv_aload_n hx hb dgX7_markParts_51 rfl (lv_at hl 1 rfl) ?_
        refine va_get (D := (dC, dI)) (ci := 10) (v := .ref (nx 5)) (C := RX7) (T := TX7) (N := 11) hx hb hts (fun _ h => List.mem_cons_of_mem _ (List.mem_append_left _ (List.mem_append_right _ h))) hown hK hP 0 rfl rfl 5 (by decide) (hts (.fieldLink RX7 27 "KnotHouse$Net" "part" "[I") (by decide +kernel)) (fun _ h9 => h9) rfl dgX7_markParts_52 ?_
        refine lv_iload_n hx hb dgX7_markParts_55 rfl (lv_at hl 3 rfl) ?_
        refine lv_aload_n hx hb dgX7_markParts_56 rfl (lv_at hl 1 rfl) ?_
        refine va_get (D := (dC, dI)) (ci := 10) (v := .int (nI E.2)) (C := RX7) (T := TX7) (N := 11) hx hb hts (fun _ h => List.mem_cons_of_mem _ (List.mem_append_left _ (List.mem_append_right _ h))) hown hK hP 0 rfl rfl 10 (by decide) (hts (.fieldLink RX7 90 "KnotHouse$Net" "parts" "I") (by decide +kernel)) (fun _ h9 => h9) rfl dgX7_markParts_57 ?_
        refine ow_iastF (j := i) (x := nI E.2) hx hb hK hP hD hS 2 0 rfl rfl (by omega) (by decide) dgX7_markParts_60 (fun H locs hP hD hS => ?_)
        have hP : va_P (dC, dI) vwCl [(aX, .inr (10, [.ref (nx 0), .ref (nx 1), .ref (nx 2), .ref (nx 3), .ref (nx 4), .ref (nx 5), .ref (nx 6), .int (nI cn), .int x8, .int x9, .int (nI E.2)])), ((nx 0), .inl (cI, 24, .inl (ow_nI S.1))), ((nx 5), .inl (cI, 24, .inl (su E.1 i (nI E.2)))), ((nx 6), .inl (cI, 24, .inl (su Z 0 (nI i))))] H := hP
        have hD : va_D A [(aX, .inr (10, [.ref (nx 0), .ref (nx 1), .ref (nx 2), .ref (nx 3), .ref (nx 4), .ref (nx 5), .ref (nx 6), .int (nI cn), .int x8, .int x9, .int (nI E.2)])), ((nx 0), .inl (cI, 24, .inl (ow_nI S.1))), ((nx 5), .inl (cI, 24, .inl (su E.1 i (nI E.2)))), ((nx 6), .inl (cI, 24, .inl (su Z 0 (nI i))))] := hD
        refine lv_iconst (v := 0) hx hb dgX7_markParts_61 (by decide) ?_
        refine ow_topi (y := nI 0) (by decide) ?_
        refine lv_istore (lv' := [(4, .int (nI 0)), (3, .int (nI 1)), (0, .ref aX), (1, .int (nI (2 * cn))), (2, .int (nI i))]) hx hb dgX7_markParts_62 hl (by decide) rfl (fun ls hl => ?_)
        have hok0 : mp_ok (2 * cn) (su E.1 i (nI E.2), (fun _ => i), 1) := ⟨fun _ _ => by show i < 2 * cn; omega, by have h1 := cntU_su (x := nI E.2) hFi (nI_nm1 (by omega)) (2 * cn) (by omega); have h2 := cntU_le E.1 (2 * cn); show 1 + cntU (su E.1 i (nI E.2)) (2 * cn) ≤ 2 * cn; omega⟩
        exact L64 (2 * cn) 0 (su E.1 i (nI E.2), (fun _ => i), 1) _ (by omega) hok0 (fun a9 h9 => by have e9 : a9 = 0 := Nat.lt_one_iff.mp h9; subst e9; rfl) hR H locs ls hP hD hS (lv_sub hl [2, 3, 4, 1, 0] rfl)
      · refine lv_goto (tgt := 177) hx hb dgX7_markParts_39 (by decide) ?_
        have hP : va_P (dC, dI) vwCl [(aX, .inr (10, [.ref (nx 0), .ref (nx 1), .ref (nx 2), .ref (nx 3), .ref (nx 4), .ref (nx 5), .ref (nx 6), .int (nI cn), .int x8, .int x9, .int (nI (mp_out S.1 (2 * cn) (np_fill F 0 (2 * cn) (-1)) (i + 1)).2)])), ((nx 0), .inl (cI, 24, .inl (ow_nI S.1))), ((nx 5), .inl (cI, 24, .inl ((mp_out S.1 (2 * cn) (np_fill F 0 (2 * cn) (-1)) (i + 1)).1))), ((nx 6), .inl (cI, 24, .inl Z))] H := by rw [show mp_out S.1 (2 * cn) (np_fill F 0 (2 * cn) (-1)) (i + 1) = (mp_out S.1 (2 * cn) (np_fill F 0 (2 * cn) (-1)) i) from if_neg c1]; exact hP
        have hD : va_D A [(aX, .inr (10, [.ref (nx 0), .ref (nx 1), .ref (nx 2), .ref (nx 3), .ref (nx 4), .ref (nx 5), .ref (nx 6), .int (nI cn), .int x8, .int x9, .int (nI (mp_out S.1 (2 * cn) (np_fill F 0 (2 * cn) (-1)) (i + 1)).2)])), ((nx 0), .inl (cI, 24, .inl (ow_nI S.1))), ((nx 5), .inl (cI, 24, .inl ((mp_out S.1 (2 * cn) (np_fill F 0 (2 * cn) (-1)) (i + 1)).1))), ((nx 6), .inl (cI, 24, .inl Z))] := by rw [show mp_out S.1 (2 * cn) (np_fill F 0 (2 * cn) (-1)) (i + 1) = (mp_out S.1 (2 * cn) (np_fill F 0 (2 * cn) (-1)) i) from if_neg c1]; exact hD
        refine lv_iinc (v := nI (i + 1)) (lv' := [(2, .int (nI (i + 1))), (0, .ref aX), (1, .int (nI (2 * cn)))]) hx hb dgX7_markParts_177 hl (k := 2) rfl (nI_1 i) (by decide) rfl (fun ls hl => ?_)
        refine lv_goto (tgt := 24) hx hb dgX7_markParts_180 (by decide) ?_
        exact ih (i + 1) Z (by omega) H locs ls hP hD hS (lv_sub hl [1, 2, 0] rfl)
  refine lv_iconst (v := 2) hx hb dgX7_markParts_0 (by decide) ?_
  refine lv_aload_n hx hb dgX7_markParts_1 rfl (lv_at hl 0 rfl) ?_
  refine va_get (D := (dC, dI)) (ci := 10) (v := .int (nI cn)) (C := RX7) (T := TX7) (N := 11) hx hb hts (fun _ h => List.mem_cons_of_mem _ (List.mem_append_left _ (List.mem_append_right _ h))) hown hK hP 0 rfl rfl 7 (by decide) (hts (.fieldLink RX7 39 "KnotHouse$Net" "crossings" "I") (by decide +kernel)) (fun _ h9 => h9) rfl dgX7_markParts_2 ?_
  refine lv_imul hx hb dgX7_markParts_5 ?_
  refine ow_topi (y := nI (2 * cn)) (pk_mul 2 cn) ?_
  refine lv_istore_n (lv' := [(1, .int (nI (2 * cn))), (0, .ref aX)]) hx hb dgX7_markParts_6 rfl hl (by decide) rfl (fun ls hl => ?_)
  refine lv_aload_n hx hb dgX7_markParts_7 rfl (lv_at hl 1 rfl) ?_
  refine va_get (D := (dC, dI)) (ci := 10) (v := .ref (nx 5)) (C := RX7) (T := TX7) (N := 11) hx hb hts (fun _ h => List.mem_cons_of_mem _ (List.mem_append_left _ (List.mem_append_right _ h))) hown hK hP 0 rfl rfl 5 (by decide) (hts (.fieldLink RX7 27 "KnotHouse$Net" "part" "[I") (by decide +kernel)) (fun _ h9 => h9) rfl dgX7_markParts_8 ?_
  refine lv_iconst (v := 0) hx hb dgX7_markParts_11 (by decide) ?_
  refine ow_topi (y := nI 0) (by decide) ?_
  refine lv_iload_n hx hb dgX7_markParts_12 rfl (lv_at hl 0 rfl) ?_
  refine lv_iconst (v := (-1)) hx hb dgX7_markParts_13 (by decide) ?_
  have hPc := hP.sub (ws' := [((nx 5), .inl (cI, 24, .inl F))]) [2] rfl
  have hDc := hD.sub (ws' := [((nx 5), .inl (cI, 24, .inl F))]) [2] (by decide) rfl
  have hFc := va_free (wc := [((nx 5), .inl (cI, 24, .inl F))]) hD hS hA [2] rfl
  refine va_callv (va_runS (As := [.ref (nx 5), .int (nI 0), .int (nI (2 * cn)), .int (-1)]) (rest := []) ⟨hx, hb, hml, hown, hts⟩ (kg_J7_fill_fda19 l dC dI cI cB cJ cZ (nx 5) 24 0 (2 * cn) (by decide) (by omega) (by omega) F (-1) H.size) (va_cwS 4 hts gg_X7_markParts_0 rfl rfl rfl (by decide +kernel) ⟨(Nat.le_of_ble_eq_true rfl), (Nat.le_of_ble_eq_true rfl)⟩) ⟨fun a U g mk q => by obtain ⟨q0, q1, qP, qK, qD⟩ := q; exact ⟨q0, q1, qP, va_K.moved (u := U) (U := U.calling g mk a) (Vm.Alike.refl U.vm) qK, qD⟩, fun U hU hW => ⟨rfl, by rw [hU], by rw [hU]; exact hPc, va_K.moved hW.alike hK, hDc.weaken (fun _ _ _ _ => trivial)⟩⟩ rfl rfl hl.1 rfl (lv_room (Nat.le_of_ble_eq_true rfl)) dgX7_markParts_14 ⟨(Nat.le_of_ble_eq_true rfl), (Nat.le_of_ble_eq_true rfl)⟩) hS (fun q _ h => hFc q h) hFc (fun u9 t H1 locs ht hvm hw9 hB hz1 hk1 hS => ?_)
  obtain ⟨hP1, hD1⟩ := hB
  rw [ht] at hP1
  obtain ⟨hP, hD⟩ := va_join (wr := [(aX, .inr (10, [.ref (nx 0), .ref (nx 1), .ref (nx 2), .ref (nx 3), .ref (nx 4), .ref (nx 5), .ref (nx 6), .int (nI cn), .int x8, .int x9, .int x10])), ((nx 0), .inl (cI, 24, .inl (ow_nI S.1))), ((nx 6), .inl (cI, 24, .inl Z))]) (w1 := [((nx 5), .inl (cI, 24, .inl (np_fill F 0 (2 * cn) (-1))))]) hP hD [2] [0, 1, 3] rfl rfl (by decide) (by decide) hk1 hFc hP1 hD1
  generalize H1 = H at hP hS ⊢
  have hP : va_P (dC, dI) vwCl [(aX, .inr (10, [.ref (nx 0), .ref (nx 1), .ref (nx 2), .ref (nx 3), .ref (nx 4), .ref (nx 5), .ref (nx 6), .int (nI cn), .int x8, .int x9, .int x10])), ((nx 0), .inl (cI, 24, .inl (ow_nI S.1))), ((nx 6), .inl (cI, 24, .inl Z)), ((nx 5), .inl (cI, 24, .inl (np_fill F 0 (2 * cn) (-1))))] H := hP
  have hD : va_D A [(aX, .inr (10, [.ref (nx 0), .ref (nx 1), .ref (nx 2), .ref (nx 3), .ref (nx 4), .ref (nx 5), .ref (nx 6), .int (nI cn), .int x8, .int x9, .int x10])), ((nx 0), .inl (cI, 24, .inl (ow_nI S.1))), ((nx 6), .inl (cI, 24, .inl Z)), ((nx 5), .inl (cI, 24, .inl (np_fill F 0 (2 * cn) (-1))))] := hD
  have hP := hP.sub (ws' := [(aX, .inr (10, [.ref (nx 0), .ref (nx 1), .ref (nx 2), .ref (nx 3), .ref (nx 4), .ref (nx 5), .ref (nx 6), .int (nI cn), .int x8, .int x9, .int x10])), ((nx 0), .inl (cI, 24, .inl (ow_nI S.1))), ((nx 5), .inl (cI, 24, .inl (np_fill F 0 (2 * cn) (-1)))), ((nx 6), .inl (cI, 24, .inl Z))]) [0, 1, 3, 2] rfl
  have hD := hD.sub (ws' := [(aX, .inr (10, [.ref (nx 0), .ref (nx 1), .ref (nx 2), .ref (nx 3), .ref (nx 4), .ref (nx 5), .ref (nx 6), .int (nI cn), .int x8, .int x9, .int x10])), ((nx 0), .inl (cI, 24, .inl (ow_nI S.1))), ((nx 5), .inl (cI, 24, .inl (np_fill F 0 (2 * cn) (-1)))), ((nx 6), .inl (cI, 24, .inl Z))]) [0, 1, 3, 2] (by decide) rfl
  refine lv_aload_n hx hb dgX7_markParts_17 rfl (lv_at hl 1 rfl) ?_
  refine lv_iconst (v := 0) hx hb dgX7_markParts_18 (by decide) ?_
  refine ow_topi (y := nI 0) (by decide) ?_
  refine va_put (D := (dC, dI)) (ci := 10) (v := .int (nI 0)) (ty := .int) (C := RX7) (T := TX7) (N := 11) hx hb hts (fun _ h => List.mem_cons_of_mem _ (List.mem_append_left _ (List.mem_append_right _ h))) tyX7 tyX7_ok nmX7 hown hK hP hD hS 0 rfl rfl 10 (by decide) (hts (.fieldLink RX7 90 "KnotHouse$Net" "parts" "I") (by decide +kernel)) (fun _ h9 => h9) rfl (by decide +kernel) rfl rfl (Nat.le_of_ble_eq_true rfl) dgX7_markParts_19 (fun H locs hP hD hS => ?_)
  have hP : va_P (dC, dI) vwCl [(aX, .inr (10, [.ref (nx 0), .ref (nx 1), .ref (nx 2), .ref (nx 3), .ref (nx 4), .ref (nx 5), .ref (nx 6), .int (nI cn), .int x8, .int x9, .int (nI 0)])), ((nx 0), .inl (cI, 24, .inl (ow_nI S.1))), ((nx 5), .inl (cI, 24, .inl (np_fill F 0 (2 * cn) (-1)))), ((nx 6), .inl (cI, 24, .inl Z))] H := hP
  have hD : va_D A [(aX, .inr (10, [.ref (nx 0), .ref (nx 1), .ref (nx 2), .ref (nx 3), .ref (nx 4), .ref (nx 5), .ref (nx 6), .int (nI cn), .int x8, .int x9, .int (nI 0)])), ((nx 0), .inl (cI, 24, .inl (ow_nI S.1))), ((nx 5), .inl (cI, 24, .inl (np_fill F 0 (2 * cn) (-1)))), ((nx 6), .inl (cI, 24, .inl Z))] := hD
  refine lv_iconst (v := 0) hx hb dgX7_markParts_22 (by decide) ?_
  refine ow_topi (y := nI 0) (by decide) ?_
  refine lv_istore_n (lv' := [(2, .int (nI 0)), (1, .int (nI (2 * cn))), (0, .ref aX)]) hx hb dgX7_markParts_23 rfl hl (by decide) rfl (fun ls hl => ?_)
  exact L24 (2 * cn) 0 Z (by omega) H locs ls hP hD hS (lv_sub hl [2, 1, 0] rfl)
