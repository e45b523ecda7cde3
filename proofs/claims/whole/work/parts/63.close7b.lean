/-! a braid closed. A letter: its place, and whether it rises -/
def ltr (w : Nat × Bool) : Int32 := if w.2 then nI (w.1 + 1) else -(nI (w.1 + 1))
theorem ltr_abs {w : Nat × Bool} (h : w.1 < 100) : (if 0 ≤ ltr w then ltr w else 0 - ltr w) = nI (w.1 + 1) := by
  have key : ∀ (i : Fin 100) (b : Bool), (if 0 ≤ ltr (i.1, b) then ltr (i.1, b) else 0 - ltr (i.1, b)) = nI (i.1 + 1) := by decide +kernel
  exact key ⟨w.1, h⟩ w.2
theorem ltr_le {w : Nat × Bool} (h : w.1 < 100) : (ltr w ≤ 0 ↔ w.2 = false) := by
  have key : ∀ (i : Fin 100) (b : Bool), (ltr (i.1, b) ≤ 0 ↔ b = false) := by decide +kernel
  exact key ⟨w.1, h⟩ w.2
/-- a visit, or none -/
def onI : Option Nat → Int32
  | none => -1
  | some v => nI v
def rlo (n : Nat) (f : Nat → Int32) (A : Nat → Option Nat) : Prop := ∀ k, k < n → f k = onI (A k)
def ow_o24 (A : Nat → Option Nat) : Prop := ∀ k v, A k = some v → v < 24
theorem onI_m1 {o : Option Nat} (h : ∀ v, o = some v → v < 24) : onI o = -1 ↔ o = none := by
  cases o with
  | none => exact ⟨fun _ => rfl, fun _ => rfl⟩
  | some v => exact ⟨fun q => absurd q (nI_nm1 (Nat.lt_trans (h v rfl) (by decide))), fun q => by cases q⟩
def cl_ext (q : ow_NP × (Nat → Option Nat)) (A2 : Nat → Option Nat) (j v : Nat) : ow_NP × (Nat → Option Nat) := match A2 j with
  | none => (q.1, fu q.2 j (some v))
  | some x => (nl q.1 x v, q.2)
theorem rlo_su {n j v : Nat} {f : Nat → Int32} {A : Nat → Option Nat} (h : rlo n f A) : rlo n (su f j (nI v)) (fu A j (some v)) := by
  intro k hk
  show (if k = j then nI v else f k) = onI (if k = j then some v else A k)
  split
  · rfl
  · exact h k hk
theorem o24_fu {A : Nat → Option Nat} {j v : Nat} (h : ow_o24 A) (hv : v < 24) : ow_o24 (fu A j (some v)) := by
  intro k x hx
  have hx : (if k = j then some v else A k) = some x := hx
  split at hx
  · have e := Option.some.inj hx
    omega
  · exact h k x hx
theorem cl_ext_ok {n j v : Nat} {f g : Nat → Int32} {A1 A2 : Nat → Option Nat} {S : ow_NP} (h1 : rlo n f A1) (h2 : rlo n g A2) (hj : j < n) (o1 : ow_o24 A1) (o2 : ow_o24 A2) (hv : v < 24) : (if g j = -1 then S else nl S ((A2 j).getD 0) v) = (cl_ext (S, A1) A2 j v).1 ∧ rlo n (if g j = -1 then su f j (nI v) else f) (cl_ext (S, A1) A2 j v).2 ∧ ow_o24 (cl_ext (S, A1) A2 j v).2 ∧ (g j = -1 ∨ (g j = nI ((A2 j).getD 0) ∧ (A2 j).getD 0 < 24)) := by
  have hg := h2 j hj
  have hm := onI_m1 (o := A2 j) (fun x hx => o2 j x hx)
  unfold cl_ext
  cases ha : A2 j with
  | none =>
    rw [ha] at hg
    have hg : g j = -1 := hg
    rw [if_pos hg, if_pos hg]
    exact ⟨rfl, rlo_su h1, o24_fu o1 hv, Or.inl hg⟩
  | some x =>
    have hx := o2 j x ha
    rw [ha] at hg
    have hg : g j = nI x := hg
    have hn : ¬ g j = -1 := by rw [hg]; exact nI_nm1 (by omega)
    rw [if_neg hn, if_neg hn]
    exact ⟨rfl, h1, o1, Or.inr ⟨hg, hx⟩⟩
abbrev cl_T := ow_NP × (Nat → Option Nat) × (Nat → Option Nat) × (Nat → Int32)
def cl_r (i : Nat) (w : Nat × Bool) : Nat := if w.2 then 2 * i else 2 * i + 1
def cl_f (i : Nat) (w : Nat × Bool) : Nat := if w.2 then 2 * i + 1 else 2 * i
def cl_step (q : cl_T) (i : Nat) (w : Nat × Bool) : cl_T := ((cl_ext (cl_ext (q.1, q.2.1) q.2.2.1 w.1 (cl_r i w)) q.2.2.1 (w.1 + 1) (cl_f i w)).1, (cl_ext (cl_ext (q.1, q.2.1) q.2.2.1 w.1 (cl_r i w)) q.2.2.1 (w.1 + 1) (cl_f i w)).2, fu (fu q.2.2.1 w.1 (some (cl_f i w))) (w.1 + 1) (some (cl_r i w)), su q.2.2.2 i (if w.2 then 1 else -1))
def cl_run (W9 : Nat → Nat × Bool) (q : cl_T) : Nat → cl_T
  | 0 => q
  | i + 1 => cl_step (cl_run W9 q i) i (W9 i)
def cl_end (A1 A2 : Nat → Option Nat) (q : ow_NP × Nat) : Nat → ow_NP × Nat
  | 0 => q
  | i + 1 => match A2 i with
    | none => ((cl_end A1 A2 q i).1, (cl_end A1 A2 q i).2 + 1)
    | some x => (nl (cl_end A1 A2 q i).1 x ((A1 i).getD 0), (cl_end A1 A2 q i).2)
theorem cl_end_le (A1 A2 : Nat → Option Nat) (q : ow_NP × Nat) : ∀ i, (cl_end A1 A2 q i).2 ≤ q.2 + i := by
  intro i
  induction i with
  | zero => exact Nat.le_refl _
  | succ i ih =>
    rw [cl_end]
    split
    · show (cl_end A1 A2 q i).2 + 1 ≤ q.2 + (i + 1)
      omega
    · show (cl_end A1 A2 q i).2 ≤ q.2 + (i + 1)
      omega
theorem cl_ext_some {q : ow_NP × (Nat → Option Nat)} {A2 : Nat → Option Nat} {j v k : Nat} (h : (q.2 k).isSome) : ((cl_ext q A2 j v).2 k).isSome := by
  unfold cl_ext
  split
  · show (if k = j then some v else q.2 k).isSome
    split
    · rfl
    · exact h
  · exact h
theorem cl_ext_at {q : ow_NP × (Nat → Option Nat)} {A2 : Nat → Option Nat} {j v : Nat} (h : (A2 j).isSome → (q.2 j).isSome) : ((cl_ext q A2 j v).2 j).isSome := by
  unfold cl_ext
  split
  · show (fu q.2 j (some v) j).isSome
    rw [fu_same]; rfl
  · rename_i x hx
    exact h (by rw [hx]; rfl)
/-- where a strand has a last visit it has a first one -/
def cl_fl (q : cl_T) : Prop := ∀ k, (q.2.2.1 k).isSome → (q.2.1 k).isSome
theorem cl_step_fl {q : cl_T} (h : cl_fl q) (i : Nat) (w : Nat × Bool) : cl_fl (cl_step q i w) := by
  intro k hk
  have hk : ((if k = w.1 + 1 then some (cl_r i w) else if k = w.1 then some (cl_f i w) else q.2.2.1 k).isSome) := hk
  show ((cl_ext (cl_ext (q.1, q.2.1) q.2.2.1 w.1 (cl_r i w)) q.2.2.1 (w.1 + 1) (cl_f i w)).2 k).isSome
  by_cases e1 : k = w.1 + 1
  · rw [e1]
    exact cl_ext_at (fun h9 => cl_ext_some (h _ h9))
  · by_cases e2 : k = w.1
    · rw [e2]
      exact cl_ext_some (cl_ext_at (fun h9 => h _ h9))
    · rw [if_neg e1, if_neg e2] at hk
      exact cl_ext_some (cl_ext_some (h k hk))
theorem dgX7_close_0 : decode cX7_close 0 = .ok (.aload_n 0, 1) := by decide +kernel
theorem dgX7_close_1 : decode cX7_close 1 = .ok (.getfield 21, 3) := by decide +kernel
theorem dgX7_close_4 : decode cX7_close 4 = .ok (.astore 5, 2) := by decide +kernel
theorem dgX7_close_6 : decode cX7_close 6 = .ok (.aload_n 0, 1) := by decide +kernel
theorem dgX7_close_7 : decode cX7_close 7 = .ok (.getfield 30, 3) := by decide +kernel
theorem dgX7_close_10 : decode cX7_close 10 = .ok (.astore 6, 2) := by decide +kernel
theorem dgX7_close_12 : decode cX7_close 12 = .ok (.aload 5, 2) := by decide +kernel
theorem dgX7_close_14 : decode cX7_close 14 = .ok (.iconst 0, 1) := by decide +kernel
theorem dgX7_close_15 : decode cX7_close 15 = .ok (.iload 4, 2) := by decide +kernel
theorem dgX7_close_17 : decode cX7_close 17 = .ok (.iconst (-1), 1) := by decide +kernel
theorem dgX7_close_18 : decode cX7_close 18 = .ok (.invokestatic 84, 3) := by decide +kernel
theorem dgX7_close_21 : decode cX7_close 21 = .ok (.aload 6, 2) := by decide +kernel
theorem dgX7_close_23 : decode cX7_close 23 = .ok (.iconst 0, 1) := by decide +kernel
theorem dgX7_close_24 : decode cX7_close 24 = .ok (.iload 4, 2) := by decide +kernel
theorem dgX7_close_26 : decode cX7_close 26 = .ok (.iconst (-1), 1) := by decide +kernel
theorem dgX7_close_27 : decode cX7_close 27 = .ok (.invokestatic 84, 3) := by decide +kernel
theorem dgX7_close_30 : decode cX7_close 30 = .ok (.aload_n 0, 1) := by decide +kernel
theorem dgX7_close_31 : decode cX7_close 31 = .ok (.invokevirtual 103, 3) := by decide +kernel
theorem dgX7_close_34 : decode cX7_close 34 = .ok (.iconst 0, 1) := by decide +kernel
theorem dgX7_close_35 : decode cX7_close 35 = .ok (.istore 7, 2) := by decide +kernel
theorem dgX7_close_37 : decode cX7_close 37 = .ok (.iload 7, 2) := by decide +kernel
theorem dgX7_close_39 : decode cX7_close 39 = .ok (.iload_n 3, 1) := by decide +kernel
theorem dgX7_close_40 : decode cX7_close 40 = .ok (.if_icmp .ge 128, 3) := by decide +kernel
theorem dgX7_close_43 : decode cX7_close 43 = .ok (.iload 7, 2) := by decide +kernel
theorem dgX7_close_45 : decode cX7_close 45 = .ok (.bipush 12, 2) := by decide +kernel
theorem dgX7_close_47 : decode cX7_close 47 = .ok (.if_icmp .ge 121, 3) := by decide +kernel
theorem dgX7_close_50 : decode cX7_close 50 = .ok (.aload_n 1, 1) := by decide +kernel
theorem dgX7_close_51 : decode cX7_close 51 = .ok (.iload_n 2, 1) := by decide +kernel
theorem dgX7_close_52 : decode cX7_close 52 = .ok (.iload 7, 2) := by decide +kernel
theorem dgX7_close_54 : decode cX7_close 54 = .ok (.iadd, 1) := by decide +kernel
theorem dgX7_close_55 : decode cX7_close 55 = .ok (.baload, 1) := by decide +kernel
theorem dgX7_close_56 : decode cX7_close 56 = .ok (.istore 8, 2) := by decide +kernel
theorem dgX7_close_58 : decode cX7_close 58 = .ok (.iload 8, 2) := by decide +kernel
theorem dgX7_close_60 : decode cX7_close 60 = .ok (.invokestatic 106, 3) := by decide +kernel
theorem dgX7_close_63 : decode cX7_close 63 = .ok (.iconst 1, 1) := by decide +kernel
theorem dgX7_close_64 : decode cX7_close 64 = .ok (.isub, 1) := by decide +kernel
theorem dgX7_close_65 : decode cX7_close 65 = .ok (.istore 9, 2) := by decide +kernel
theorem dgX7_close_67 : decode cX7_close 67 = .ok (.iload 8, 2) := by decide +kernel
theorem dgX7_close_69 : decode cX7_close 69 = .ok (.ifCond .le 10, 3) := by decide +kernel
theorem dgX7_close_72 : decode cX7_close 72 = .ok (.iconst 2, 1) := by decide +kernel
theorem dgX7_close_73 : decode cX7_close 73 = .ok (.iload 7, 2) := by decide +kernel
theorem dgX7_close_75 : decode cX7_close 75 = .ok (.imul, 1) := by decide +kernel
theorem dgX7_close_76 : decode cX7_close 76 = .ok (.goto 9, 3) := by decide +kernel
theorem dgX7_close_79 : decode cX7_close 79 = .ok (.iconst 2, 1) := by decide +kernel
theorem dgX7_close_80 : decode cX7_close 80 = .ok (.iload 7, 2) := by decide +kernel
theorem dgX7_close_82 : decode cX7_close 82 = .ok (.imul, 1) := by decide +kernel
theorem dgX7_close_83 : decode cX7_close 83 = .ok (.iconst 1, 1) := by decide +kernel
theorem dgX7_close_84 : decode cX7_close 84 = .ok (.iadd, 1) := by decide +kernel
theorem dgX7_close_85 : decode cX7_close 85 = .ok (.istore 10, 2) := by decide +kernel
theorem dgX7_close_87 : decode cX7_close 87 = .ok (.iload 10, 2) := by decide +kernel
theorem dgX7_close_89 : decode cX7_close 89 = .ok (.iconst 1, 1) := by decide +kernel
theorem dgX7_close_90 : decode cX7_close 90 = .ok (.ixor, 1) := by decide +kernel
theorem dgX7_close_91 : decode cX7_close 91 = .ok (.istore 11, 2) := by decide +kernel
theorem dgX7_close_93 : decode cX7_close 93 = .ok (.aload_n 0, 1) := by decide +kernel
theorem dgX7_close_94 : decode cX7_close 94 = .ok (.aload 5, 2) := by decide +kernel
theorem dgX7_close_96 : decode cX7_close 96 = .ok (.aload 6, 2) := by decide +kernel
theorem dgX7_close_98 : decode cX7_close 98 = .ok (.iload 9, 2) := by decide +kernel
theorem dgX7_close_100 : decode cX7_close 100 = .ok (.iload 10, 2) := by decide +kernel
theorem dgX7_close_102 : decode cX7_close 102 = .ok (.invokevirtual 112, 3) := by decide +kernel
theorem dgX7_close_105 : decode cX7_close 105 = .ok (.aload_n 0, 1) := by decide +kernel
theorem dgX7_close_106 : decode cX7_close 106 = .ok (.aload 5, 2) := by decide +kernel
theorem dgX7_close_108 : decode cX7_close 108 = .ok (.aload 6, 2) := by decide +kernel
theorem dgX7_close_110 : decode cX7_close 110 = .ok (.iload 9, 2) := by decide +kernel
theorem dgX7_close_112 : decode cX7_close 112 = .ok (.iconst 1, 1) := by decide +kernel
theorem dgX7_close_113 : decode cX7_close 113 = .ok (.iadd, 1) := by decide +kernel
theorem dgX7_close_114 : decode cX7_close 114 = .ok (.iload 11, 2) := by decide +kernel
theorem dgX7_close_116 : decode cX7_close 116 = .ok (.invokevirtual 112, 3) := by decide +kernel
theorem dgX7_close_119 : decode cX7_close 119 = .ok (.aload 6, 2) := by decide +kernel
theorem dgX7_close_121 : decode cX7_close 121 = .ok (.iload 9, 2) := by decide +kernel
theorem dgX7_close_123 : decode cX7_close 123 = .ok (.iload 11, 2) := by decide +kernel
theorem dgX7_close_125 : decode cX7_close 125 = .ok (.iastore, 1) := by decide +kernel
theorem dgX7_close_126 : decode cX7_close 126 = .ok (.aload 6, 2) := by decide +kernel
theorem dgX7_close_128 : decode cX7_close 128 = .ok (.iload 9, 2) := by decide +kernel
theorem dgX7_close_130 : decode cX7_close 130 = .ok (.iconst 1, 1) := by decide +kernel
theorem dgX7_close_131 : decode cX7_close 131 = .ok (.iadd, 1) := by decide +kernel
theorem dgX7_close_132 : decode cX7_close 132 = .ok (.iload 10, 2) := by decide +kernel
theorem dgX7_close_134 : decode cX7_close 134 = .ok (.iastore, 1) := by decide +kernel
theorem dgX7_close_135 : decode cX7_close 135 = .ok (.aload_n 0, 1) := by decide +kernel
theorem dgX7_close_136 : decode cX7_close 136 = .ok (.getfield 18, 3) := by decide +kernel
theorem dgX7_close_139 : decode cX7_close 139 = .ok (.iload 7, 2) := by decide +kernel
theorem dgX7_close_141 : decode cX7_close 141 = .ok (.iload 8, 2) := by decide +kernel
theorem dgX7_close_143 : decode cX7_close 143 = .ok (.ifCond .le 7, 3) := by decide +kernel
theorem dgX7_close_146 : decode cX7_close 146 = .ok (.iconst 1, 1) := by decide +kernel
theorem dgX7_close_147 : decode cX7_close 147 = .ok (.goto 4, 3) := by decide +kernel
theorem dgX7_close_150 : decode cX7_close 150 = .ok (.iconst (-1), 1) := by decide +kernel
theorem dgX7_close_151 : decode cX7_close 151 = .ok (.iastore, 1) := by decide +kernel
theorem dgX7_close_152 : decode cX7_close 152 = .ok (.aload_n 0, 1) := by decide +kernel
theorem dgX7_close_153 : decode cX7_close 153 = .ok (.dup, 1) := by decide +kernel
theorem dgX7_close_154 : decode cX7_close 154 = .ok (.getfield 39, 3) := by decide +kernel
theorem dgX7_close_157 : decode cX7_close 157 = .ok (.iconst 1, 1) := by decide +kernel
theorem dgX7_close_158 : decode cX7_close 158 = .ok (.iadd, 1) := by decide +kernel
theorem dgX7_close_159 : decode cX7_close 159 = .ok (.putfield 39, 3) := by decide +kernel
theorem dgX7_close_162 : decode cX7_close 162 = .ok (.iinc 7 1, 3) := by decide +kernel
theorem dgX7_close_165 : decode cX7_close 165 = .ok (.goto (-128), 3) := by decide +kernel
theorem dgX7_close_168 : decode cX7_close 168 = .ok (.iconst 0, 1) := by decide +kernel
theorem dgX7_close_169 : decode cX7_close 169 = .ok (.istore 7, 2) := by decide +kernel
theorem dgX7_close_171 : decode cX7_close 171 = .ok (.iload 7, 2) := by decide +kernel
theorem dgX7_close_173 : decode cX7_close 173 = .ok (.iload 4, 2) := by decide +kernel
theorem dgX7_close_175 : decode cX7_close 175 = .ok (.if_icmp .ge 45, 3) := by decide +kernel
theorem dgX7_close_178 : decode cX7_close 178 = .ok (.aload 6, 2) := by decide +kernel
theorem dgX7_close_180 : decode cX7_close 180 = .ok (.iload 7, 2) := by decide +kernel
theorem dgX7_close_182 : decode cX7_close 182 = .ok (.iaload, 1) := by decide +kernel
theorem dgX7_close_183 : decode cX7_close 183 = .ok (.iconst (-1), 1) := by decide +kernel
theorem dgX7_close_184 : decode cX7_close 184 = .ok (.if_icmp .ne 16, 3) := by decide +kernel
theorem dgX7_close_187 : decode cX7_close 187 = .ok (.aload_n 0, 1) := by decide +kernel
theorem dgX7_close_188 : decode cX7_close 188 = .ok (.dup, 1) := by decide +kernel
theorem dgX7_close_189 : decode cX7_close 189 = .ok (.getfield 42, 3) := by decide +kernel
theorem dgX7_close_192 : decode cX7_close 192 = .ok (.iconst 1, 1) := by decide +kernel
theorem dgX7_close_193 : decode cX7_close 193 = .ok (.iadd, 1) := by decide +kernel
theorem dgX7_close_194 : decode cX7_close 194 = .ok (.putfield 42, 3) := by decide +kernel
theorem dgX7_close_197 : decode cX7_close 197 = .ok (.goto 17, 3) := by decide +kernel
theorem dgX7_close_200 : decode cX7_close 200 = .ok (.aload_n 0, 1) := by decide +kernel
theorem dgX7_close_201 : decode cX7_close 201 = .ok (.aload 6, 2) := by decide +kernel
theorem dgX7_close_203 : decode cX7_close 203 = .ok (.iload 7, 2) := by decide +kernel
theorem dgX7_close_205 : decode cX7_close 205 = .ok (.iaload, 1) := by decide +kernel
theorem dgX7_close_206 : decode cX7_close 206 = .ok (.aload 5, 2) := by decide +kernel
theorem dgX7_close_208 : decode cX7_close 208 = .ok (.iload 7, 2) := by decide +kernel
theorem dgX7_close_210 : decode cX7_close 210 = .ok (.iaload, 1) := by decide +kernel
theorem dgX7_close_211 : decode cX7_close 211 = .ok (.invokevirtual 54, 3) := by decide +kernel
theorem dgX7_close_214 : decode cX7_close 214 = .ok (.iinc 7 1, 3) := by decide +kernel
theorem dgX7_close_217 : decode cX7_close 217 = .ok (.goto (-46), 3) := by decide +kernel
theorem dgX7_close_220 : decode cX7_close 220 = .ok (.return_, 1) := by decide +kernel
def wg_X7_close : List Cond := .code yX7_close cX7_close 12 none :: (([.fieldLink RX7 21 "KnotHouse$Net" "order" "[I", .fieldLink RX7 30 "KnotHouse$Net" "queue" "[I", .fieldLink RX7 18 "KnotHouse$Net" "sign" "[I", .fieldLink RX7 39 "KnotHouse$Net" "crossings" "I", .fieldLink RX7 42 "KnotHouse$Net" "circles" "I", .methodLink RX7 106 Lib.Math.abs.name, .static Lib.Math.abs.name, .initialized "java/lang/Math", .code Lib.Math.abs.name Lib.Math.abs.code 1 (some .int)] ++ wsX70) ++ (va_wsS RX7 84 yJ7_fill_fda19 wg_J7_fill_fda19 ++ (wsV RX7 103 RX7 yX7_empty wg_X7_empty ++ (wsV RX7 112 RX7 yX7_extend wg_X7_extend ++ (wsV RX7 54 RX7 yX7_link wg_X7_link ++ [])))))
theorem gg_X7_close_0 : GoodIn wg_X7_close (va_wsS RX7 84 yJ7_fill_fda19 wg_J7_fill_fda19) := goodIn_sub (fun _ h => List.mem_cons_of_mem _ (List.mem_append_right _ (List.mem_append_left _ h))) (by decide +kernel)
theorem gg_X7_close_1 : GoodIn wg_X7_close (wsV RX7 103 RX7 yX7_empty wg_X7_empty) := goodIn_sub (fun _ h => List.mem_cons_of_mem _ (List.mem_append_right _ (List.mem_append_right _ (List.mem_append_left _ h)))) (by decide +kernel)
theorem gg_X7_close_2 : GoodIn wg_X7_close (wsV RX7 112 RX7 yX7_extend wg_X7_extend) := goodIn_sub (fun _ h => List.mem_cons_of_mem _ (List.mem_append_right _ (List.mem_append_right _ (List.mem_append_right _ (List.mem_append_left _ h))))) (by decide +kernel)
theorem gg_X7_close_3 : GoodIn wg_X7_close (wsV RX7 54 RX7 yX7_link wg_X7_link) := goodIn_sub (fun _ h => List.mem_cons_of_mem _ (List.mem_append_right _ (List.mem_append_right _ (List.mem_append_right _ (List.mem_append_right _ (List.mem_append_left _ h)))))) (by decide +kernel)
set_option maxHeartbeats 4000000 in
set_option maxRecDepth 100000 in
theorem kg_X7_close (l : Launch) (dC : Nat → ClassId) (dI : Nat → Nat → Nat) (cI cB cJ cZ : ClassId) (aX : Nat) (nx : Nat → Nat) (x7 x8 x9 x10 : Int32) (S : ow_NP) (G O Z : Nat → Int32) (aL nL : Nat) (hnL : nL < 2 ^ 24) (Lt : Nat → Int32) (at0 cnt ns : Nat) (hat : at0 + cnt ≤ nL) (hcnt : cnt ≤ 12) (hns : ns ≤ 24) (W9 : Nat → Nat × Bool) (hW : ∀ k, k < cnt → Lt (at0 + k) = ltr (W9 k) ∧ (W9 k).1 + 2 ≤ ns) (sz : Nat) : Met l yX7_close wg_X7_close (({ frames := 2, cells := 0, slots := 0, locals := 70 } : Room)) (va_Pc [.ref aX, .ref aL, .int (nI at0), .int (nI cnt), .int (nI ns)] (fun U => U.heap.size = sz ∧ va_P (dC, dI) vwCl [(aX, .inr (10, [.ref (nx 0), .ref (nx 1), .ref (nx 2), .ref (nx 3), .ref (nx 4), .ref (nx 5), .ref (nx 6), .int x7, .int x8, .int x9, .int x10])), ((nx 0), .inl (cI, 24, .inl (ow_nI S.1))), ((nx 1), .inl (cI, 24, .inl (ow_nI S.2))), ((nx 2), .inl (cI, 12, .inl G)), ((nx 3), .inl (cI, 24, .inl O)), ((nx 6), .inl (cI, 24, .inl Z)), (aL, .inl (cB, nL, .inl Lt))] U.heap ∧ va_K (dC, dI) vwCl [(cI, .int), (cB, .byte), (cJ, .long), (cZ, .boolean)] U ∧ va_D (fun _ => True) [(aX, .inr (10, [.ref (nx 0), .ref (nx 1), .ref (nx 2), .ref (nx 3), .ref (nx 4), .ref (nx 5), .ref (nx 6), .int x7, .int x8, .int x9, .int x10])), ((nx 0), .inl (cI, 24, .inl (ow_nI S.1))), ((nx 1), .inl (cI, 24, .inl (ow_nI S.2))), ((nx 2), .inl (cI, 12, .inl G)), ((nx 3), .inl (cI, 24, .inl O)), ((nx 6), .inl (cI, 24, .inl Z)), (aL, .inl (cB, nL, .inl Lt))])) (va_Qv (fun (g : (Nat → Int32) × (Nat → Int32)) => True) (fun g t => va_P (dC, dI) vwCl [(aX, .inr (10, [.ref (nx 0), .ref (nx 1), .ref (nx 2), .ref (nx 3), .ref (nx 4), .ref (nx 5), .ref (nx 6), .int (nI cnt), .int (nI (cl_end (cl_run W9 (S, fun _ => none, fun _ => none, G) cnt).2.1 (cl_run W9 (S, fun _ => none, fun _ => none, G) cnt).2.2.1 ((cl_run W9 (S, fun _ => none, fun _ => none, G) cnt).1, 0) ns).2), .int x9, .int x10])), ((nx 0), .inl (cI, 24, .inl (ow_nI ((cl_end (cl_run W9 (S, fun _ => none, fun _ => none, G) cnt).2.1 (cl_run W9 (S, fun _ => none, fun _ => none, G) cnt).2.2.1 ((cl_run W9 (S, fun _ => none, fun _ => none, G) cnt).1, 0) ns).1).1))), ((nx 1), .inl (cI, 24, .inl (ow_nI ((cl_end (cl_run W9 (S, fun _ => none, fun _ => none, G) cnt).2.1 (cl_run W9 (S, fun _ => none, fun _ => none, G) cnt).2.2.1 ((cl_run W9 (S, fun _ => none, fun _ => none, G) cnt).1, 0) ns).1).2))), ((nx 2), .inl (cI, 12, .inl ((cl_run W9 (S, fun _ => none, fun _ => none, G) cnt).2.2.2))), ((nx 3), .inl (cI, 24, .inl g.1)), ((nx 6), .inl (cI, 24, .inl g.2)), (aL, .inl (cB, nL, .inl Lt))] t.heap ∧ va_D (va_A [(aX, .inr (10, [.ref (nx 0), .ref (nx 1), .ref (nx 2), .ref (nx 3), .ref (nx 4), .ref (nx 5), .ref (nx 6), .int x7, .int x8, .int x9, .int x10])), ((nx 0), .inl (cI, 24, .inl (ow_nI S.1))), ((nx 1), .inl (cI, 24, .inl (ow_nI S.2))), ((nx 2), .inl (cI, 12, .inl G)), ((nx 3), .inl (cI, 24, .inl O)), ((nx 6), .inl (cI, 24, .inl Z)), (aL, .inl (cB, nL, .inl Lt))] sz) [(aX, .inr (10, [.ref (nx 0), .ref (nx 1), .ref (nx 2), .ref (nx 3), .ref (nx 4), .ref (nx 5), .ref (nx 6), .int (nI cnt), .int (nI (cl_end (cl_run W9 (S, fun _ => none, fun _ => none, G) cnt).2.1 (cl_run W9 (S, fun _ => none, fun _ => none, G) cnt).2.2.1 ((cl_run W9 (S, fun _ => none, fun _ => none, G) cnt).1, 0) ns).2), .int x9, .int x10])), ((nx 0), .inl (cI, 24, .inl (ow_nI ((cl_end (cl_run W9 (S, fun _ => none, fun _ => none, G) cnt).2.1 (cl_run W9 (S, fun _ => none, fun _ => none, G) cnt).2.2.1 ((cl_run W9 (S, fun _ => none, fun _ => none, G) cnt).1, 0) ns).1).1))), ((nx 1), .inl (cI, 24, .inl (ow_nI ((cl_end (cl_run W9 (S, fun _ => none, fun _ => none, G) cnt).2.1 (cl_run W9 (S, fun _ => none, fun _ => none, G) cnt).2.2.1 ((cl_run W9 (S, fun _ => none, fun _ => none, G) cnt).1, 0) ns).1).2))), ((nx 2), .inl (cI, 12, .inl ((cl_run W9 (S, fun _ => none, fun _ => none, G) cnt).2.2.2))), ((nx 3), .inl (cI, 24, .inl g.1)), ((nx 6), .inl (cI, 24, .inl g.2)), (aL, .inl (cB, nL, .inl Lt))]) (va_A [(aX, .inr (10, [.ref (nx 0), .ref (nx 1), .ref (nx 2), .ref (nx 3), .ref (nx 4), .ref (nx 5), .ref (nx 6), .int x7, .int x8, .int x9, .int x10])), ((nx 0), .inl (cI, 24, .inl (ow_nI S.1))), ((nx 1), .inl (cI, 24, .inl (ow_nI S.2))), ((nx 2), .inl (cI, 12, .inl G)), ((nx 3), .inl (cI, 24, .inl O)), ((nx 6), .inl (cI, 24, .inl Z)), (aL, .inl (cB, nL, .inl Lt))] sz)) 0 0 (va_A [(aX, .inr (10, [.ref (nx 0), .ref (nx 1), .ref (nx 2), .ref (nx 3), .ref (nx 4), .ref (nx 5), .ref (nx 6), .int x7, .int x8, .int x9, .int x10])), ((nx 0), .inl (cI, 24, .inl (ow_nI S.1))), ((nx 1), .inl (cI, 24, .inl (ow_nI S.2))), ((nx 2), .inl (cI, 12, .inl G)), ((nx 3), .inl (cI, 24, .inl O)), ((nx 6), .inl (cI, 24, .inl Z)), (aL, .inl (cB, nL, .inl Lt))] sz) := by
  refine Met.ofW (cc := cX7_close) (maxL := 12) (ret := none) (by decide) rfl ?_
  intro p e s m args below meth c s₁ B hml hv
  obtain ⟨rfl, hsz, hP, hK, hD0⟩ := hv
  have hx := B.exec
  have hb := B.bytes
  have hr := B.returns
  have hts := atoms_spec (ws := wg_X7_close) B.pre
  have hown : s.vm.findClass RX7 = some m.cls := findClass_of_methodNamed B.named
  have hlocks := B.notSynchronized
  subst hsz
  have hD := hD0.self (sz := s.heap.size)
  generalize hAe : va_A [(aX, .inr (10, [.ref (nx 0), .ref (nx 1), .ref (nx 2), .ref (nx 3), .ref (nx 4), .ref (nx 5), .ref (nx 6), .int x7, .int x8, .int x9, .int x10])), ((nx 0), .inl (cI, 24, .inl (ow_nI S.1))), ((nx 1), .inl (cI, 24, .inl (ow_nI S.2))), ((nx 2), .inl (cI, 12, .inl G)), ((nx 3), .inl (cI, 24, .inl O)), ((nx 6), .inl (cI, 24, .inl Z)), (aL, .inl (cB, nL, .inl Lt))] s.heap.size = A at hD ⊢
  have hA : ∀ q : Nat, s.heap.size ≤ q → A q := fun q h => by rw [← hAe]; exact Or.inr h
  have hS : va_S A s.heap s.heap [] := va_S.rf
  have hP : va_P (dC, dI) vwCl [(aX, .inr (10, [.ref (nx 0), .ref (nx 1), .ref (nx 2), .ref (nx 3), .ref (nx 4), .ref (nx 5), .ref (nx 6), .int x7, .int x8, .int x9, .int x10])), ((nx 0), .inl (cI, 24, .inl (ow_nI S.1))), ((nx 1), .inl (cI, 24, .inl (ow_nI S.2))), ((nx 2), .inl (cI, 12, .inl G)), ((nx 3), .inl (cI, 24, .inl O)), ((nx 6), .inl (cI, 24, .inl Z)), (aL, .inl (cB, nL, .inl Lt))] s.heap := hP
  have hl := lv_entry ([.ref aX, .ref aL, .int (nI at0), .int (nI cnt), .int (nI ns)]) (n := 12) (Nat.le_of_ble_eq_true rfl)
  rw [lg_entry_eq]
  generalize (lg_sl ([.ref aX, .ref aL, .int (nI at0), .int (nI cnt), .int (nI ns)]) ++ List.replicate (12 - (lg_sl ([.ref aX, .ref aL, .int (nI at0), .int (nI cnt), .int (nI ns)])).length) Slot.unset).toArray = ls at hl ⊢
  have hl : lv_has ls 12 [(0, .ref aX), (1, .ref aL), (2, .int (nI at0)), (3, .int (nI cnt)), (4, .int (nI ns))] := hl
  refine ow_named (fun QQ hQQ => ?_)
  suffices key9 : ∀ (H : Heap) (locs : List Loc), va_P (dC, dI) vwCl [(aX, .inr (10, [.ref (nx 0), .ref (nx 1), .ref (nx 2), .ref (nx 3), .ref (nx 4), .ref (nx 5), .ref (nx 6), .int x7, .int x8, .int x9, .int x10])), ((nx 0), .inl (cI, 24, .inl (ow_nI S.1))), ((nx 1), .inl (cI, 24, .inl (ow_nI S.2))), ((nx 2), .inl (cI, 12, .inl G)), ((nx 3), .inl (cI, 24, .inl O)), ((nx 6), .inl (cI, 24, .inl Z)), (aL, .inl (cB, nL, .inl Lt))] H → va_S A s.heap H locs → W p l e ({ frames := 2, cells := 0, slots := 0, locals := 70 } : Room) s m ([.ref aX, .ref aL, .int (nI at0), .int (nI cnt), .int (nI ns)] : List Value).toArray below meth c H locs 0 0 QQ (F0 m 0 ls []) from key9 s.heap [] hP hS
  intro H locs hP hS
  have L171 : ∀ (f h : Nat → Int32), rlo ns f (cl_run W9 (S, fun _ => none, fun _ => none, G) cnt).2.1 → rlo ns h (cl_run W9 (S, fun _ => none, fun _ => none, G) cnt).2.2.1 → ow_o24 (cl_run W9 (S, fun _ => none, fun _ => none, G) cnt).2.1 → ow_o24 (cl_run W9 (S, fun _ => none, fun _ => none, G) cnt).2.2.1 → cl_fl (cl_run W9 (S, fun _ => none, fun _ => none, G) cnt) → ∀ (d i : Nat), i + d = ns → ∀ (H : Heap) (locs : List Loc) (ls : Array Slot), va_P (dC, dI) vwCl [(aX, .inr (10, [.ref (nx 0), .ref (nx 1), .ref (nx 2), .ref (nx 3), .ref (nx 4), .ref (nx 5), .ref (nx 6), .int (nI cnt), .int (nI (cl_end (cl_run W9 (S, fun _ => none, fun _ => none, G) cnt).2.1 (cl_run W9 (S, fun _ => none, fun _ => none, G) cnt).2.2.1 ((cl_run W9 (S, fun _ => none, fun _ => none, G) cnt).1, 0) i).2), .int x9, .int x10])), ((nx 0), .inl (cI, 24, .inl (ow_nI ((cl_end (cl_run W9 (S, fun _ => none, fun _ => none, G) cnt).2.1 (cl_run W9 (S, fun _ => none, fun _ => none, G) cnt).2.2.1 ((cl_run W9 (S, fun _ => none, fun _ => none, G) cnt).1, 0) i).1).1))), ((nx 1), .inl (cI, 24, .inl (ow_nI ((cl_end (cl_run W9 (S, fun _ => none, fun _ => none, G) cnt).2.1 (cl_run W9 (S, fun _ => none, fun _ => none, G) cnt).2.2.1 ((cl_run W9 (S, fun _ => none, fun _ => none, G) cnt).1, 0) i).1).2))), ((nx 2), .inl (cI, 12, .inl ((cl_run W9 (S, fun _ => none, fun _ => none, G) cnt).2.2.2))), ((nx 3), .inl (cI, 24, .inl f)), ((nx 6), .inl (cI, 24, .inl h)), (aL, .inl (cB, nL, .inl Lt))] H → va_D A [(aX, .inr (10, [.ref (nx 0), .ref (nx 1), .ref (nx 2), .ref (nx 3), .ref (nx 4), .ref (nx 5), .ref (nx 6), .int (nI cnt), .int (nI (cl_end (cl_run W9 (S, fun _ => none, fun _ => none, G) cnt).2.1 (cl_run W9 (S, fun _ => none, fun _ => none, G) cnt).2.2.1 ((cl_run W9 (S, fun _ => none, fun _ => none, G) cnt).1, 0) i).2), .int x9, .int x10])), ((nx 0), .inl (cI, 24, .inl (ow_nI ((cl_end (cl_run W9 (S, fun _ => none, fun _ => none, G) cnt).2.1 (cl_run W9 (S, fun _ => none, fun _ => none, G) cnt).2.2.1 ((cl_run W9 (S, fun _ => none, fun _ => none, G) cnt).1, 0) i).1).1))), ((nx 1), .inl (cI, 24, .inl (ow_nI ((cl_end (cl_run W9 (S, fun _ => none, fun _ => none, G) cnt).2.1 (cl_run W9 (S, fun _ => none, fun _ => none, G) cnt).2.2.1 ((cl_run W9 (S, fun _ => none, fun _ => none, G) cnt).1, 0) i).1).2))), ((nx 2), .inl (cI, 12, .inl ((cl_run W9 (S, fun _ => none, fun _ => none, G) cnt).2.2.2))), ((nx 3), .inl (cI, 24, .inl f)), ((nx 6), .inl (cI, 24, .inl h)), (aL, .inl (cB, nL, .inl Lt))] → va_S A s.heap H locs → lv_has ls 12 [(0, .ref aX), (1, .ref aL), (2, .int (nI at0)), (3, .int (nI cnt)), (4, .int (nI ns)), (5, .ref (nx 3)), (6, .ref (nx 6)), (7, .int (nI i))] → W p l e ({ frames := 2, cells := 0, slots := 0, locals := 70 } : Room) s m ([.ref aX, .ref aL, .int (nI at0), .int (nI cnt), .int (nI ns)] : List Value).toArray below meth c H locs 0 0 QQ (F0 m 171 ls []) := by
    intro f h hf hh of oh hfl d
    induction d with
    | zero =>
      intro i hi H locs ls hP hD hS hl
      have hie : i = ns := by omega
      refine lv_iload hx hb dgX7_close_171 (lv_at hl 7 rfl) ?_
      refine lv_iload hx hb dgX7_close_173 (lv_at hl 4 rfl) ?_
      refine lv_icmp_ge (tgt := 220) hx hb dgX7_close_175 (by decide) (fun _ => ?_) (fun c9 => absurd (nI_le (a := ns) (b := i) (by omega) (by omega)) c9)
      have hP : va_P (dC, dI) vwCl [(aX, .inr (10, [.ref (nx 0), .ref (nx 1), .ref (nx 2), .ref (nx 3), .ref (nx 4), .ref (nx 5), .ref (nx 6), .int (nI cnt), .int (nI (cl_end (cl_run W9 (S, fun _ => none, fun _ => none, G) cnt).2.1 (cl_run W9 (S, fun _ => none, fun _ => none, G) cnt).2.2.1 ((cl_run W9 (S, fun _ => none, fun _ => none, G) cnt).1, 0) ns).2), .int x9, .int x10])), ((nx 0), .inl (cI, 24, .inl (ow_nI ((cl_end (cl_run W9 (S, fun _ => none, fun _ => none, G) cnt).2.1 (cl_run W9 (S, fun _ => none, fun _ => none, G) cnt).2.2.1 ((cl_run W9 (S, fun _ => none, fun _ => none, G) cnt).1, 0) ns).1).1))), ((nx 1), .inl (cI, 24, .inl (ow_nI ((cl_end (cl_run W9 (S, fun _ => none, fun _ => none, G) cnt).2.1 (cl_run W9 (S, fun _ => none, fun _ => none, G) cnt).2.2.1 ((cl_run W9 (S, fun _ => none, fun _ => none, G) cnt).1, 0) ns).1).2))), ((nx 2), .inl (cI, 12, .inl ((cl_run W9 (S, fun _ => none, fun _ => none, G) cnt).2.2.2))), ((nx 3), .inl (cI, 24, .inl f)), ((nx 6), .inl (cI, 24, .inl h)), (aL, .inl (cB, nL, .inl Lt))] H := by rw [hie] at hP; exact hP
      have hD : va_D A [(aX, .inr (10, [.ref (nx 0), .ref (nx 1), .ref (nx 2), .ref (nx 3), .ref (nx 4), .ref (nx 5), .ref (nx 6), .int (nI cnt), .int (nI (cl_end (cl_run W9 (S, fun _ => none, fun _ => none, G) cnt).2.1 (cl_run W9 (S, fun _ => none, fun _ => none, G) cnt).2.2.1 ((cl_run W9 (S, fun _ => none, fun _ => none, G) cnt).1, 0) ns).2), .int x9, .int x10])), ((nx 0), .inl (cI, 24, .inl (ow_nI ((cl_end (cl_run W9 (S, fun _ => none, fun _ => none, G) cnt).2.1 (cl_run W9 (S, fun _ => none, fun _ => none, G) cnt).2.2.1 ((cl_run W9 (S, fun _ => none, fun _ => none, G) cnt).1, 0) ns).1).1))), ((nx 1), .inl (cI, 24, .inl (ow_nI ((cl_end (cl_run W9 (S, fun _ => none, fun _ => none, G) cnt).2.1 (cl_run W9 (S, fun _ => none, fun _ => none, G) cnt).2.2.1 ((cl_run W9 (S, fun _ => none, fun _ => none, G) cnt).1, 0) ns).1).2))), ((nx 2), .inl (cI, 12, .inl ((cl_run W9 (S, fun _ => none, fun _ => none, G) cnt).2.2.2))), ((nx 3), .inl (cI, 24, .inl f)), ((nx 6), .inl (cI, 24, .inl h)), (aL, .inl (cB, nL, .inl Lt))] := by rw [hie] at hD; exact hD
      rw [hQQ]
      exact W.vret hx hb hr (fun t ht hW => ⟨⟨(f, h), rfl, trivial, by rw [ht]; exact hP, hD⟩, hS.F ht⟩) hS.2.2 dgX7_close_220
    | succ d ih =>
      intro i hi H locs ls hP hD hS hl
      have hel := cl_end_le (cl_run W9 (S, fun _ => none, fun _ => none, G) cnt).2.1 (cl_run W9 (S, fun _ => none, fun _ => none, G) cnt).2.2.1 ((cl_run W9 (S, fun _ => none, fun _ => none, G) cnt).1, 0) i
      have hhi := hh i (by omega)
      have hfi := hf i (by omega)
      refine lv_iload hx hb dgX7_close_171 (lv_at hl 7 rfl) ?_
      refine lv_iload hx hb dgX7_close_173 (lv_at hl 4 rfl) ?_
      refine lv_icmp_ge (tgt := 220) hx hb dgX7_close_175 (by decide) (fun c9 => absurd c9 (nI_ge (a := i) (b := ns) (by omega) (by omega))) (fun _ => ?_)
      refine lv_aload hx hb dgX7_close_178 (lv_at hl 6 rfl) ?_
      refine lv_iload hx hb dgX7_close_180 (lv_at hl 7 rfl) ?_
      refine va_iald hx hb hK hP 5 0 rfl rfl (vp_in_nI (n := i) (N := 24) (by omega) (by decide)) dgX7_close_182 ?_
      refine ow_topi (y := h i) (congrArg h (nI_clamp (n := i) (Nat.lt_trans (m := 24) (by omega) (by decide)))) ?_
      refine lv_iconst (v := (-1)) hx hb dgX7_close_183 (by decide) ?_
      cases ha : (cl_run W9 (S, fun _ => none, fun _ => none, G) cnt).2.2.1 i with
      | none =>
        rw [ha] at hhi
        have hst : (cl_end (cl_run W9 (S, fun _ => none, fun _ => none, G) cnt).2.1 (cl_run W9 (S, fun _ => none, fun _ => none, G) cnt).2.2.1 ((cl_run W9 (S, fun _ => none, fun _ => none, G) cnt).1, 0) (i + 1)) = ((cl_end (cl_run W9 (S, fun _ => none, fun _ => none, G) cnt).2.1 (cl_run W9 (S, fun _ => none, fun _ => none, G) cnt).2.2.1 ((cl_run W9 (S, fun _ => none, fun _ => none, G) cnt).1, 0) i).1, (cl_end (cl_run W9 (S, fun _ => none, fun _ => none, G) cnt).2.1 (cl_run W9 (S, fun _ => none, fun _ => none, G) cnt).2.2.1 ((cl_run W9 (S, fun _ => none, fun _ => none, G) cnt).1, 0) i).2 + 1) := by rw [cl_end, ha]
        refine lv_icmp_ne (tgt := 200) hx hb dgX7_close_184 (by decide) (fun c9 => absurd c9 (not_not_intro hhi)) (fun _ => ?_)
        refine lv_aload_n hx hb dgX7_close_187 rfl (lv_at hl 0 rfl) ?_
        refine lv_dup hx hb dgX7_close_188 rfl ?_
        refine va_get (D := (dC, dI)) (ci := 10) (v := .int (nI (cl_end (cl_run W9 (S, fun _ => none, fun _ => none, G) cnt).2.1 (cl_run W9 (S, fun _ => none, fun _ => none, G) cnt).2.2.1 ((cl_run W9 (S, fun _ => none, fun _ => none, G) cnt).1, 0) i).2)) (C := RX7) (T := TX7) (N := 11) hx hb hts (fun _ h => List.mem_cons_of_mem _ (List.mem_append_left _ (List.mem_append_right _ h))) hown hK hP 0 rfl rfl 8 (by decide) (hts (.fieldLink RX7 42 "KnotHouse$Net" "circles" "I") (by decide +kernel)) (fun _ h9 => h9) rfl dgX7_close_189 ?_
        refine lv_iconst (v := 1) hx hb dgX7_close_192 (by decide) ?_
        refine lv_iadd hx hb dgX7_close_193 ?_
        refine ow_topi (y := nI ((cl_end (cl_run W9 (S, fun _ => none, fun _ => none, G) cnt).2.1 (cl_run W9 (S, fun _ => none, fun _ => none, G) cnt).2.2.1 ((cl_run W9 (S, fun _ => none, fun _ => none, G) cnt).1, 0) i).2 + 1)) (nI_1 ((cl_end (cl_run W9 (S, fun _ => none, fun _ => none, G) cnt).2.1 (cl_run W9 (S, fun _ => none, fun _ => none, G) cnt).2.2.1 ((cl_run W9 (S, fun _ => none, fun _ => none, G) cnt).1, 0) i).2)) ?_
        refine va_put (D := (dC, dI)) (ci := 10) (v := .int (nI ((cl_end (cl_run W9 (S, fun _ => none, fun _ => none, G) cnt).2.1 (cl_run W9 (S, fun _ => none, fun _ => none, G) cnt).2.2.1 ((cl_run W9 (S, fun _ => none, fun _ => none, G) cnt).1, 0) i).2 + 1))) (ty := .int) (C := RX7) (T := TX7) (N := 11) hx hb hts (fun _ h => List.mem_cons_of_mem _ (List.mem_append_left _ (List.mem_append_right _ h))) tyX7 tyX7_ok nmX7 hown hK hP hD hS 0 rfl rfl 8 (by decide) (hts (.fieldLink RX7 42 "KnotHouse$Net" "circles" "I") (by decide +kernel)) (fun _ h9 => h9) rfl (by decide +kernel) rfl rfl (Nat.le_of_ble_eq_true rfl) dgX7_close_194 (fun H locs hP hD hS => ?_)
        have hP : va_P (dC, dI) vwCl [(aX, .inr (10, [.ref (nx 0), .ref (nx 1), .ref (nx 2), .ref (nx 3), .ref (nx 4), .ref (nx 5), .ref (nx 6), .int (nI cnt), .int (nI ((cl_end (cl_run W9 (S, fun _ => none, fun _ => none, G) cnt).2.1 (cl_run W9 (S, fun _ => none, fun _ => none, G) cnt).2.2.1 ((cl_run W9 (S, fun _ => none, fun _ => none, G) cnt).1, 0) i).2 + 1)), .int x9, .int x10])), ((nx 0), .inl (cI, 24, .inl (ow_nI ((cl_end (cl_run W9 (S, fun _ => none, fun _ => none, G) cnt).2.1 (cl_run W9 (S, fun _ => none, fun _ => none, G) cnt).2.2.1 ((cl_run W9 (S, fun _ => none, fun _ => none, G) cnt).1, 0) i).1).1))), ((nx 1), .inl (cI, 24, .inl (ow_nI ((cl_end (cl_run W9 (S, fun _ => none, fun _ => none, G) cnt).2.1 (cl_run W9 (S, fun _ => none, fun _ => none, G) cnt).2.2.1 ((cl_run W9 (S, fun _ => none, fun _ => none, G) cnt).1, 0) i).1).2))), ((nx 2), .inl (cI, 12, .inl ((cl_run W9 (S, fun _ => none, fun _ => none, G) cnt).2.2.2))), ((nx 3), .inl (cI, 24, .inl f)), ((nx 6), .inl (cI, 24, .inl h)), (aL, .inl (cB, nL, .inl Lt))] H := hP
        have hD : va_D A [(aX, .inr (10, [.ref (nx 0), .ref (nx 1), .ref (nx 2), .ref (nx 3), .ref (nx 4), .ref (nx 5), .ref (nx 6), .int (nI cnt), .int (nI ((cl_end (cl_run W9 (S, fun _ => none, fun _ => none, G) cnt).2.1 (cl_run W9 (S, fun _ => none, fun _ => none, G) cnt).2.2.1 ((cl_run W9 (S, fun _ => none, fun _ => none, G) cnt).1, 0) i).2 + 1)), .int x9, .int x10])), ((nx 0), .inl (cI, 24, .inl (ow_nI ((cl_end (cl_run W9 (S, fun _ => none, fun _ => none, G) cnt).2.1 (cl_run W9 (S, fun _ => none, fun _ => none, G) cnt).2.2.1 ((cl_run W9 (S, fun _ => none, fun _ => none, G) cnt).1, 0) i).1).1))), ((nx 1), .inl (cI, 24, .inl (ow_nI ((cl_end (cl_run W9 (S, fun _ => none, fun _ => none, G) cnt).2.1 (cl_run W9 (S, fun _ => none, fun _ => none, G) cnt).2.2.1 ((cl_run W9 (S, fun _ => none, fun _ => none, G) cnt).1, 0) i).1).2))), ((nx 2), .inl (cI, 12, .inl ((cl_run W9 (S, fun _ => none, fun _ => none, G) cnt).2.2.2))), ((nx 3), .inl (cI, 24, .inl f)), ((nx 6), .inl (cI, 24, .inl h)), (aL, .inl (cB, nL, .inl Lt))] := hD
        refine lv_goto (tgt := 214) hx hb dgX7_close_197 (by decide) ?_
        have hP : va_P (dC, dI) vwCl [(aX, .inr (10, [.ref (nx 0), .ref (nx 1), .ref (nx 2), .ref (nx 3), .ref (nx 4), .ref (nx 5), .ref (nx 6), .int (nI cnt), .int (nI (cl_end (cl_run W9 (S, fun _ => none, fun _ => none, G) cnt).2.1 (cl_run W9 (S, fun _ => none, fun _ => none, G) cnt).2.2.1 ((cl_run W9 (S, fun _ => none, fun _ => none, G) cnt).1, 0) (i + 1)).2), .int x9, .int x10])), ((nx 0), .inl (cI, 24, .inl (ow_nI ((cl_end (cl_run W9 (S, fun _ => none, fun _ => none, G) cnt).2.1 (cl_run W9 (S, fun _ => none, fun _ => none, G) cnt).2.2.1 ((cl_run W9 (S, fun _ => none, fun _ => none, G) cnt).1, 0) (i + 1)).1).1))), ((nx 1), .inl (cI, 24, .inl (ow_nI ((cl_end (cl_run W9 (S, fun _ => none, fun _ => none, G) cnt).2.1 (cl_run W9 (S, fun _ => none, fun _ => none, G) cnt).2.2.1 ((cl_run W9 (S, fun _ => none, fun _ => none, G) cnt).1, 0) (i + 1)).1).2))), ((nx 2), .inl (cI, 12, .inl ((cl_run W9 (S, fun _ => none, fun _ => none, G) cnt).2.2.2))), ((nx 3), .inl (cI, 24, .inl f)), ((nx 6), .inl (cI, 24, .inl h)), (aL, .inl (cB, nL, .inl Lt))] H := by rw [hst]; exact hP
        have hD : va_D A [(aX, .inr (10, [.ref (nx 0), .ref (nx 1), .ref (nx 2), .ref (nx 3), .ref (nx 4), .ref (nx 5), .ref (nx 6), .int (nI cnt), .int (nI (cl_end (cl_run W9 (S, fun _ => none, fun _ => none, G) cnt).2.1 (cl_run W9 (S, fun _ => none, fun _ => none, G) cnt).2.2.1 ((cl_run W9 (S, fun _ => none, fun _ => none, G) cnt).1, 0) (i + 1)).2), .int x9, .int x10])), ((nx 0), .inl (cI, 24, .inl (ow_nI ((cl_end (cl_run W9 (S, fun _ => none, fun _ => none, G) cnt).2.1 (cl_run W9 (S, fun _ => none, fun _ => none, G) cnt).2.2.1 ((cl_run W9 (S, fun _ => none, fun _ => none, G) cnt).1, 0) (i + 1)).1).1))), ((nx 1), .inl (cI, 24, .inl (ow_nI ((cl_end (cl_run W9 (S, fun _ => none, fun _ => none, G) cnt).2.1 (cl_run W9 (S, fun _ => none, fun _ => none, G) cnt).2.2.1 ((cl_run W9 (S, fun _ => none, fun _ => none, G) cnt).1, 0) (i + 1)).1).2))), ((nx 2), .inl (cI, 12, .inl ((cl_run W9 (S, fun _ => none, fun _ => none, G) cnt).2.2.2))), ((nx 3), .inl (cI, 24, .inl f)), ((nx 6), .inl (cI, 24, .inl h)), (aL, .inl (cB, nL, .inl Lt))] := by rw [hst]; exact hD
        refine lv_iinc (v := nI (i + 1)) (lv' := [(7, .int (nI (i + 1))), (0, .ref aX), (1, .ref aL), (2, .int (nI at0)), (3, .int (nI cnt)), (4, .int (nI ns)), (5, .ref (nx 3)), (6, .ref (nx 6))]) hx hb dgX7_close_214 hl (k := 7) rfl (nI_1 i) (by decide) rfl (fun ls hl => ?_)
        refine lv_goto (tgt := 171) hx hb dgX7_close_217 (by decide) ?_
        exact ih (i + 1) (by omega) H locs ls hP hD hS (lv_sub hl [1, 2, 3, 4, 5, 6, 7, 0] rfl)
      | some x =>
        rw [ha] at hhi
        have hhi : h i = nI x := hhi
        have hx24 := oh i x ha
        obtain ⟨y, hy⟩ := Option.isSome_iff_exists.mp (hfl i (by rw [ha]; rfl))
        rw [hy] at hfi
        have hfi : f i = nI y := hfi
        have hy24 := of i y hy
        have hst : (cl_end (cl_run W9 (S, fun _ => none, fun _ => none, G) cnt).2.1 (cl_run W9 (S, fun _ => none, fun _ => none, G) cnt).2.2.1 ((cl_run W9 (S, fun _ => none, fun _ => none, G) cnt).1, 0) (i + 1)) = (nl (cl_end (cl_run W9 (S, fun _ => none, fun _ => none, G) cnt).2.1 (cl_run W9 (S, fun _ => none, fun _ => none, G) cnt).2.2.1 ((cl_run W9 (S, fun _ => none, fun _ => none, G) cnt).1, 0) i).1 x y, (cl_end (cl_run W9 (S, fun _ => none, fun _ => none, G) cnt).2.1 (cl_run W9 (S, fun _ => none, fun _ => none, G) cnt).2.2.1 ((cl_run W9 (S, fun _ => none, fun _ => none, G) cnt).1, 0) i).2) := by rw [cl_end, ha, hy]; rfl
        refine lv_icmp_ne (tgt := 200) hx hb dgX7_close_184 (by decide) (fun _ => ?_) (fun c9 => absurd c9 (by rw [hhi]; exact nI_nm1 (by omega)))
        refine lv_aload_n hx hb dgX7_close_200 rfl (lv_at hl 0 rfl) ?_
        refine lv_aload hx hb dgX7_close_201 (lv_at hl 6 rfl) ?_
        refine lv_iload hx hb dgX7_close_203 (lv_at hl 7 rfl) ?_
        refine va_iald hx hb hK hP 5 0 rfl rfl (vp_in_nI (n := i) (N := 24) (by omega) (by decide)) dgX7_close_205 ?_
        refine ow_topi (y := nI x) ((congrArg h (nI_clamp (n := i) (Nat.lt_trans (m := 24) (by omega) (by decide)))).trans (hhi)) ?_
        refine lv_aload hx hb dgX7_close_206 (lv_at hl 5 rfl) ?_
        refine lv_iload hx hb dgX7_close_208 (lv_at hl 7 rfl) ?_
        refine va_iald hx hb hK hP 4 0 rfl rfl (vp_in_nI (n := i) (N := 24) (by omega) (by decide)) dgX7_close_210 ?_
        refine ow_topi (y := nI y) ((congrArg f (nI_clamp (n := i) (Nat.lt_trans (m := 24) (by omega) (by decide)))).trans (hfi)) ?_
        have hPc := hP.sub (ws' := [(aX, .inr (10, [.ref (nx 0), .ref (nx 1), .ref (nx 2), .ref (nx 3), .ref (nx 4), .ref (nx 5), .ref (nx 6), .int (nI cnt), .int (nI (cl_end (cl_run W9 (S, fun _ => none, fun _ => none, G) cnt).2.1 (cl_run W9 (S, fun _ => none, fun _ => none, G) cnt).2.2.1 ((cl_run W9 (S, fun _ => none, fun _ => none, G) cnt).1, 0) i).2), .int x9, .int x10])), ((nx 0), .inl (cI, 24, .inl (ow_nI ((cl_end (cl_run W9 (S, fun _ => none, fun _ => none, G) cnt).2.1 (cl_run W9 (S, fun _ => none, fun _ => none, G) cnt).2.2.1 ((cl_run W9 (S, fun _ => none, fun _ => none, G) cnt).1, 0) i).1).1))), ((nx 1), .inl (cI, 24, .inl (ow_nI ((cl_end (cl_run W9 (S, fun _ => none, fun _ => none, G) cnt).2.1 (cl_run W9 (S, fun _ => none, fun _ => none, G) cnt).2.2.1 ((cl_run W9 (S, fun _ => none, fun _ => none, G) cnt).1, 0) i).1).2)))]) [0, 1, 2] rfl
        have hDc := hD.sub (ws' := [(aX, .inr (10, [.ref (nx 0), .ref (nx 1), .ref (nx 2), .ref (nx 3), .ref (nx 4), .ref (nx 5), .ref (nx 6), .int (nI cnt), .int (nI (cl_end (cl_run W9 (S, fun _ => none, fun _ => none, G) cnt).2.1 (cl_run W9 (S, fun _ => none, fun _ => none, G) cnt).2.2.1 ((cl_run W9 (S, fun _ => none, fun _ => none, G) cnt).1, 0) i).2), .int x9, .int x10])), ((nx 0), .inl (cI, 24, .inl (ow_nI ((cl_end (cl_run W9 (S, fun _ => none, fun _ => none, G) cnt).2.1 (cl_run W9 (S, fun _ => none, fun _ => none, G) cnt).2.2.1 ((cl_run W9 (S, fun _ => none, fun _ => none, G) cnt).1, 0) i).1).1))), ((nx 1), .inl (cI, 24, .inl (ow_nI ((cl_end (cl_run W9 (S, fun _ => none, fun _ => none, G) cnt).2.1 (cl_run W9 (S, fun _ => none, fun _ => none, G) cnt).2.2.1 ((cl_run W9 (S, fun _ => none, fun _ => none, G) cnt).1, 0) i).1).2)))]) [0, 1, 2] (by decide) rfl
        have hFc := va_free (wc := [(aX, .inr (10, [.ref (nx 0), .ref (nx 1), .ref (nx 2), .ref (nx 3), .ref (nx 4), .ref (nx 5), .ref (nx 6), .int (nI cnt), .int (nI (cl_end (cl_run W9 (S, fun _ => none, fun _ => none, G) cnt).2.1 (cl_run W9 (S, fun _ => none, fun _ => none, G) cnt).2.2.1 ((cl_run W9 (S, fun _ => none, fun _ => none, G) cnt).1, 0) i).2), .int x9, .int x10])), ((nx 0), .inl (cI, 24, .inl (ow_nI ((cl_end (cl_run W9 (S, fun _ => none, fun _ => none, G) cnt).2.1 (cl_run W9 (S, fun _ => none, fun _ => none, G) cnt).2.2.1 ((cl_run W9 (S, fun _ => none, fun _ => none, G) cnt).1, 0) i).1).1))), ((nx 1), .inl (cI, 24, .inl (ow_nI ((cl_end (cl_run W9 (S, fun _ => none, fun _ => none, G) cnt).2.1 (cl_run W9 (S, fun _ => none, fun _ => none, G) cnt).2.2.1 ((cl_run W9 (S, fun _ => none, fun _ => none, G) cnt).1, 0) i).1).2)))]) hD hS hA [0, 1, 2] rfl
        refine va_callv (va_runV (As := [.int (nI x), .int (nI y)]) (rest := []) ⟨hx, hb, hml, hown, hts⟩ (kg_X7_link l dC dI cI cB cJ cZ aX nx (nI cnt) (nI (cl_end (cl_run W9 (S, fun _ => none, fun _ => none, G) cnt).2.1 (cl_run W9 (S, fun _ => none, fun _ => none, G) cnt).2.2.1 ((cl_run W9 (S, fun _ => none, fun _ => none, G) cnt).1, 0) i).2) x9 x10 ((cl_end (cl_run W9 (S, fun _ => none, fun _ => none, G) cnt).2.1 (cl_run W9 (S, fun _ => none, fun _ => none, G) cnt).2.2.1 ((cl_run W9 (S, fun _ => none, fun _ => none, G) cnt).1, 0) i).1) x y hx24 hy24 H.size) (cwV 2 hts gg_X7_close_3 rfl rfl rfl (by decide +kernel) ⟨(Nat.le_of_ble_eq_true rfl), (Nat.le_of_ble_eq_true rfl)⟩) ⟨fun a U g mk q => by obtain ⟨q0, q1, qP, qK, qD⟩ := q; exact ⟨q0, q1, qP, va_K.moved (u := U) (U := U.calling g mk a) (Vm.Alike.refl U.vm) qK, qD⟩, va_recv hK hPc (ci := 10) (q0 := 0) rfl rfl, fun U hU hW => ⟨rfl, by rw [hU], by rw [hU]; exact hPc, va_K.moved hW.alike hK, hDc.weaken (fun _ _ _ _ => trivial)⟩⟩ rfl rfl hl.1 rfl (lv_room (Nat.le_of_ble_eq_true rfl)) dgX7_close_211 ⟨(Nat.le_of_ble_eq_true rfl), (Nat.le_of_ble_eq_true rfl)⟩) hS (fun q _ h => hFc q h) hFc (fun u9 t H1 locs ht hvm hw hB hz1 hk1 hS => ?_)
        obtain ⟨hP1, hD1⟩ := hB
        rw [ht] at hP1
        obtain ⟨hP, hD⟩ := va_join (wr := [((nx 2), .inl (cI, 12, .inl ((cl_run W9 (S, fun _ => none, fun _ => none, G) cnt).2.2.2))), ((nx 3), .inl (cI, 24, .inl f)), ((nx 6), .inl (cI, 24, .inl h)), (aL, .inl (cB, nL, .inl Lt))]) (w1 := [(aX, .inr (10, [.ref (nx 0), .ref (nx 1), .ref (nx 2), .ref (nx 3), .ref (nx 4), .ref (nx 5), .ref (nx 6), .int (nI cnt), .int (nI (cl_end (cl_run W9 (S, fun _ => none, fun _ => none, G) cnt).2.1 (cl_run W9 (S, fun _ => none, fun _ => none, G) cnt).2.2.1 ((cl_run W9 (S, fun _ => none, fun _ => none, G) cnt).1, 0) i).2), .int x9, .int x10])), ((nx 0), .inl (cI, 24, .inl (ow_nI (nl ((cl_end (cl_run W9 (S, fun _ => none, fun _ => none, G) cnt).2.1 (cl_run W9 (S, fun _ => none, fun _ => none, G) cnt).2.2.1 ((cl_run W9 (S, fun _ => none, fun _ => none, G) cnt).1, 0) i).1) x y).1))), ((nx 1), .inl (cI, 24, .inl (ow_nI (nl ((cl_end (cl_run W9 (S, fun _ => none, fun _ => none, G) cnt).2.1 (cl_run W9 (S, fun _ => none, fun _ => none, G) cnt).2.2.1 ((cl_run W9 (S, fun _ => none, fun _ => none, G) cnt).1, 0) i).1) x y).2)))]) hP hD [0, 1, 2] [3, 4, 5, 6] rfl rfl (by decide) (by decide) hk1 hFc hP1 hD1
        generalize H1 = H at hP hS ⊢
        have hP : va_P (dC, dI) vwCl [((nx 2), .inl (cI, 12, .inl ((cl_run W9 (S, fun _ => none, fun _ => none, G) cnt).2.2.2))), ((nx 3), .inl (cI, 24, .inl f)), ((nx 6), .inl (cI, 24, .inl h)), (aL, .inl (cB, nL, .inl Lt)), (aX, .inr (10, [.ref (nx 0), .ref (nx 1), .ref (nx 2), .ref (nx 3), .ref (nx 4), .ref (nx 5), .ref (nx 6), .int (nI cnt), .int (nI (cl_end (cl_run W9 (S, fun _ => none, fun _ => none, G) cnt).2.1 (cl_run W9 (S, fun _ => none, fun _ => none, G) cnt).2.2.1 ((cl_run W9 (S, fun _ => none, fun _ => none, G) cnt).1, 0) i).2), .int x9, .int x10])), ((nx 0), .inl (cI, 24, .inl (ow_nI (nl ((cl_end (cl_run W9 (S, fun _ => none, fun _ => none, G) cnt).2.1 (cl_run W9 (S, fun _ => none, fun _ => none, G) cnt).2.2.1 ((cl_run W9 (S, fun _ => none, fun _ => none, G) cnt).1, 0) i).1) x y).1))), ((nx 1), .inl (cI, 24, .inl (ow_nI (nl ((cl_end (cl_run W9 (S, fun _ => none, fun _ => none, G) cnt).2.1 (cl_run W9 (S, fun _ => none, fun _ => none, G) cnt).2.2.1 ((cl_run W9 (S, fun _ => none, fun _ => none, G) cnt).1, 0) i).1) x y).2)))] H := hP
        have hD : va_D A [((nx 2), .inl (cI, 12, .inl ((cl_run W9 (S, fun _ => none, fun _ => none, G) cnt).2.2.2))), ((nx 3), .inl (cI, 24, .inl f)), ((nx 6), .inl (cI, 24, .inl h)), (aL, .inl (cB, nL, .inl Lt)), (aX, .inr (10, [.ref (nx 0), .ref (nx 1), .ref (nx 2), .ref (nx 3), .ref (nx 4), .ref (nx 5), .ref (nx 6), .int (nI cnt), .int (nI (cl_end (cl_run W9 (S, fun _ => none, fun _ => none, G) cnt).2.1 (cl_run W9 (S, fun _ => none, fun _ => none, G) cnt).2.2.1 ((cl_run W9 (S, fun _ => none, fun _ => none, G) cnt).1, 0) i).2), .int x9, .int x10])), ((nx 0), .inl (cI, 24, .inl (ow_nI (nl ((cl_end (cl_run W9 (S, fun _ => none, fun _ => none, G) cnt).2.1 (cl_run W9 (S, fun _ => none, fun _ => none, G) cnt).2.2.1 ((cl_run W9 (S, fun _ => none, fun _ => none, G) cnt).1, 0) i).1) x y).1))), ((nx 1), .inl (cI, 24, .inl (ow_nI (nl ((cl_end (cl_run W9 (S, fun _ => none, fun _ => none, G) cnt).2.1 (cl_run W9 (S, fun _ => none, fun _ => none, G) cnt).2.2.1 ((cl_run W9 (S, fun _ => none, fun _ => none, G) cnt).1, 0) i).1) x y).2)))] := hD
        have hP := hP.sub (ws' := [(aX, .inr (10, [.ref (nx 0), .ref (nx 1), .ref (nx 2), .ref (nx 3), .ref (nx 4), .ref (nx 5), .ref (nx 6), .int (nI cnt), .int (nI (cl_end (cl_run W9 (S, fun _ => none, fun _ => none, G) cnt).2.1 (cl_run W9 (S, fun _ => none, fun _ => none, G) cnt).2.2.1 ((cl_run W9 (S, fun _ => none, fun _ => none, G) cnt).1, 0) i).2), .int x9, .int x10])), ((nx 0), .inl (cI, 24, .inl (ow_nI (nl ((cl_end (cl_run W9 (S, fun _ => none, fun _ => none, G) cnt).2.1 (cl_run W9 (S, fun _ => none, fun _ => none, G) cnt).2.2.1 ((cl_run W9 (S, fun _ => none, fun _ => none, G) cnt).1, 0) i).1) x y).1))), ((nx 1), .inl (cI, 24, .inl (ow_nI (nl ((cl_end (cl_run W9 (S, fun _ => none, fun _ => none, G) cnt).2.1 (cl_run W9 (S, fun _ => none, fun _ => none, G) cnt).2.2.1 ((cl_run W9 (S, fun _ => none, fun _ => none, G) cnt).1, 0) i).1) x y).2))), ((nx 2), .inl (cI, 12, .inl ((cl_run W9 (S, fun _ => none, fun _ => none, G) cnt).2.2.2))), ((nx 3), .inl (cI, 24, .inl f)), ((nx 6), .inl (cI, 24, .inl h)), (aL, .inl (cB, nL, .inl Lt))]) [4, 5, 6, 0, 1, 2, 3] rfl
        have hD := hD.sub (ws' := [(aX, .inr (10, [.ref (nx 0), .ref (nx 1), .ref (nx 2), .ref (nx 3), .ref (nx 4), .ref (nx 5), .ref (nx 6), .int (nI cnt), .int (nI (cl_end (cl_run W9 (S, fun _ => none, fun _ => none, G) cnt).2.1 (cl_run W9 (S, fun _ => none, fun _ => none, G) cnt).2.2.1 ((cl_run W9 (S, fun _ => none, fun _ => none, G) cnt).1, 0) i).2), .int x9, .int x10])), ((nx 0), .inl (cI, 24, .inl (ow_nI (nl ((cl_end (cl_run W9 (S, fun _ => none, fun _ => none, G) cnt).2.1 (cl_run W9 (S, fun _ => none, fun _ => none, G) cnt).2.2.1 ((cl_run W9 (S, fun _ => none, fun _ => none, G) cnt).1, 0) i).1) x y).1))), ((nx 1), .inl (cI, 24, .inl (ow_nI (nl ((cl_end (cl_run W9 (S, fun _ => none, fun _ => none, G) cnt).2.1 (cl_run W9 (S, fun _ => none, fun _ => none, G) cnt).2.2.1 ((cl_run W9 (S, fun _ => none, fun _ => none, G) cnt).1, 0) i).1) x y).2))), ((nx 2), .inl (cI, 12, .inl ((cl_run W9 (S, fun _ => none, fun _ => none, G) cnt).2.2.2))), ((nx 3), .inl (cI, 24, .inl f)), ((nx 6), .inl (cI, 24, .inl h)), (aL, .inl (cB, nL, .inl Lt))]) [4, 5, 6, 0, 1, 2, 3] (by decide) rfl
        have hP : va_P (dC, dI) vwCl [(aX, .inr (10, [.ref (nx 0), .ref (nx 1), .ref (nx 2), .ref (nx 3), .ref (nx 4), .ref (nx 5), .ref (nx 6), .int (nI cnt), .int (nI (cl_end (cl_run W9 (S, fun _ => none, fun _ => none, G) cnt).2.1 (cl_run W9 (S, fun _ => none, fun _ => none, G) cnt).2.2.1 ((cl_run W9 (S, fun _ => none, fun _ => none, G) cnt).1, 0) (i + 1)).2), .int x9, .int x10])), ((nx 0), .inl (cI, 24, .inl (ow_nI ((cl_end (cl_run W9 (S, fun _ => none, fun _ => none, G) cnt).2.1 (cl_run W9 (S, fun _ => none, fun _ => none, G) cnt).2.2.1 ((cl_run W9 (S, fun _ => none, fun _ => none, G) cnt).1, 0) (i + 1)).1).1))), ((nx 1), .inl (cI, 24, .inl (ow_nI ((cl_end (cl_run W9 (S, fun _ => none, fun _ => none, G) cnt).2.1 (cl_run W9 (S, fun _ => none, fun _ => none, G) cnt).2.2.1 ((cl_run W9 (S, fun _ => none, fun _ => none, G) cnt).1, 0) (i + 1)).1).2))), ((nx 2), .inl (cI, 12, .inl ((cl_run W9 (S, fun _ => none, fun _ => none, G) cnt).2.2.2))), ((nx 3), .inl (cI, 24, .inl f)), ((nx 6), .inl (cI, 24, .inl h)), (aL, .inl (cB, nL, .inl Lt))] H := by rw [hst]; exact hP
        have hD : va_D A [(aX, .inr (10, [.ref (nx 0), .ref (nx 1), .ref (nx 2), .ref (nx 3), .ref (nx 4), .ref (nx 5), .ref (nx 6), .int (nI cnt), .int (nI (cl_end (cl_run W9 (S, fun _ => none, fun _ => none, G) cnt).2.1 (cl_run W9 (S, fun _ => none, fun _ => none, G) cnt).2.2.1 ((cl_run W9 (S, fun _ => none, fun _ => none, G) cnt).1, 0) (i + 1)).2), .int x9, .int x10])), ((nx 0), .inl (cI, 24, .inl (ow_nI ((cl_end (cl_run W9 (S, fun _ => none, fun _ => none, G) cnt).2.1 (cl_run W9 (S, fun _ => none, fun _ => none, G) cnt).2.2.1 ((cl_run W9 (S, fun _ => none, fun _ => none, G) cnt).1, 0) (i + 1)).1).1))), ((nx 1), .inl (cI, 24, .inl (ow_nI ((cl_end (cl_run W9 (S, fun _ => none, fun _ => none, G) cnt).2.1 (cl_run W9 (S, fun _ => none, fun _ => none, G) cnt).2.2.1 ((cl_run W9 (S, fun _ => none, fun _ => none, G) cnt).1, 0) (i + 1)).1).2))), ((nx 2), .inl (cI, 12, .inl ((cl_run W9 (S, fun _ => none, fun _ => none, G) cnt).2.2.2))), ((nx 3), .inl (cI, 24, .inl f)), ((nx 6), .inl (cI, 24, .inl h)), (aL, .inl (cB, nL, .inl Lt))] := by rw [hst]; exact hD
        refine lv_iinc (v := nI (i + 1)) (lv' := [(7, .int (nI (i + 1))), (0, .ref aX), (1, .ref aL), (2, .int (nI at0)), (3, .int (nI cnt)), (4, .int (nI ns)), (5, .ref (nx 3)), (6, .ref (nx 6))]) hx hb dgX7_close_214 hl (k := 7) rfl (nI_1 i) (by decide) rfl (fun ls hl => ?_)
        refine lv_goto (tgt := 171) hx hb dgX7_close_217 (by decide) ?_
        exact ih (i + 1) (by omega) H locs ls hP hD hS (lv_sub hl [1, 2, 3, 4, 5, 6, 7, 0] rfl)
  have L37 : ∀ (d i : Nat) (f h : Nat → Int32), i + d = cnt → rlo ns f (cl_run W9 (S, fun _ => none, fun _ => none, G) i).2.1 → rlo ns h (cl_run W9 (S, fun _ => none, fun _ => none, G) i).2.2.1 → ow_o24 (cl_run W9 (S, fun _ => none, fun _ => none, G) i).2.1 → ow_o24 (cl_run W9 (S, fun _ => none, fun _ => none, G) i).2.2.1 → cl_fl (cl_run W9 (S, fun _ => none, fun _ => none, G) i) → ∀ (H : Heap) (locs : List Loc) (ls : Array Slot), va_P (dC, dI) vwCl [(aX, .inr (10, [.ref (nx 0), .ref (nx 1), .ref (nx 2), .ref (nx 3), .ref (nx 4), .ref (nx 5), .ref (nx 6), .int (nI i), .int 0, .int x9, .int x10])), ((nx 0), .inl (cI, 24, .inl (ow_nI ((cl_run W9 (S, fun _ => none, fun _ => none, G) i).1).1))), ((nx 1), .inl (cI, 24, .inl (ow_nI ((cl_run W9 (S, fun _ => none, fun _ => none, G) i).1).2))), ((nx 2), .inl (cI, 12, .inl ((cl_run W9 (S, fun _ => none, fun _ => none, G) i).2.2.2))), ((nx 3), .inl (cI, 24, .inl f)), ((nx 6), .inl (cI, 24, .inl h)), (aL, .inl (cB, nL, .inl Lt))] H → va_D A [(aX, .inr (10, [.ref (nx 0), .ref (nx 1), .ref (nx 2), .ref (nx 3), .ref (nx 4), .ref (nx 5), .ref (nx 6), .int (nI i), .int 0, .int x9, .int x10])), ((nx 0), .inl (cI, 24, .inl (ow_nI ((cl_run W9 (S, fun _ => none, fun _ => none, G) i).1).1))), ((nx 1), .inl (cI, 24, .inl (ow_nI ((cl_run W9 (S, fun _ => none, fun _ => none, G) i).1).2))), ((nx 2), .inl (cI, 12, .inl ((cl_run W9 (S, fun _ => none, fun _ => none, G) i).2.2.2))), ((nx 3), .inl (cI, 24, .inl f)), ((nx 6), .inl (cI, 24, .inl h)), (aL, .inl (cB, nL, .inl Lt))] → va_S A s.heap H locs → lv_has ls 12 [(0, .ref aX), (1, .ref aL), (2, .int (nI at0)), (3, .int (nI cnt)), (4, .int (nI ns)), (5, .ref (nx 3)), (6, .ref (nx 6)), (7, .int (nI i))] → W p l e ({ frames := 2, cells := 0, slots := 0, locals := 70 } : Room) s m ([.ref aX, .ref aL, .int (nI at0), .int (nI cnt), .int (nI ns)] : List Value).toArray below meth c H locs 0 0 QQ (F0 m 37 ls []) := by
    intro d
    induction d with
    | zero =>
      intro i f h hi hf hh of oh hfl H locs ls hP hD hS hl
      have hie : i = cnt := by omega
      refine lv_iload hx hb dgX7_close_37 (lv_at hl 7 rfl) ?_
      refine lv_iload_n hx hb dgX7_close_39 rfl (lv_at hl 3 rfl) ?_
      refine lv_icmp_ge (tgt := 168) hx hb dgX7_close_40 (by decide) (fun _ => ?_) (fun c9 => absurd (nI_le (a := cnt) (b := i) (by omega) (by omega)) c9)
      refine lv_iconst (v := 0) hx hb dgX7_close_168 (by decide) ?_
      refine ow_topi (y := nI 0) (by decide) ?_
      refine lv_istore (lv' := [(7, .int (nI 0)), (0, .ref aX), (1, .ref aL), (2, .int (nI at0)), (3, .int (nI cnt)), (4, .int (nI ns)), (5, .ref (nx 3)), (6, .ref (nx 6))]) hx hb dgX7_close_169 hl (by decide) rfl (fun ls hl => ?_)
      rw [hie] at hP hD hf hh of oh hfl
      exact L171 f h hf hh of oh hfl ns 0 (by omega) H locs ls hP hD hS (lv_sub hl [1, 2, 3, 4, 5, 6, 7, 0] rfl)
    | succ d ih =>
      intro i f h hi hf hh of oh hfl H locs ls hP hD hS hl
      obtain ⟨hWi, hWn⟩ := hW i (by omega)
      refine lv_iload hx hb dgX7_close_37 (lv_at hl 7 rfl) ?_
      refine lv_iload_n hx hb dgX7_close_39 rfl (lv_at hl 3 rfl) ?_
      refine lv_icmp_ge (tgt := 168) hx hb dgX7_close_40 (by decide) (fun c9 => absurd c9 (nI_ge (a := i) (b := cnt) (by omega) (by omega))) (fun _ => ?_)
      refine lv_iload hx hb dgX7_close_43 (lv_at hl 7 rfl) ?_
      refine lv_bipush (v := 12) hx hb dgX7_close_45 (by decide) ?_
      refine lv_icmp_ge (tgt := 168) hx hb dgX7_close_47 (by decide) (fun c9 => absurd c9 (nI_ge (a := i) (b := 12) (by omega) (by omega))) (fun _ => ?_)
      refine lv_aload_n hx hb dgX7_close_50 rfl (lv_at hl 1 rfl) ?_
      refine lv_iload_n hx hb dgX7_close_51 rfl (lv_at hl 2 rfl) ?_
      refine lv_iload hx hb dgX7_close_52 (lv_at hl 7 rfl) ?_
      refine lv_iadd hx hb dgX7_close_54 ?_
      refine ow_topi (y := nI (at0 + i)) (nI_add at0 i) ?_
      refine va_bald hx hb hK hP 6 1 rfl rfl (vp_in_nI (n := at0 + i) (N := nL) (by omega) (by omega)) dgX7_close_55 ?_
      refine ow_topi (y := ltr (W9 i)) ((congrArg Lt (nI_clamp (n := at0 + i) (by omega))).trans hWi) ?_
      refine lv_istore (lv' := [(8, .int (ltr (W9 i))), (0, .ref aX), (1, .ref aL), (2, .int (nI at0)), (3, .int (nI cnt)), (4, .int (nI ns)), (5, .ref (nx 3)), (6, .ref (nx 6)), (7, .int (nI i))]) hx hb dgX7_close_56 hl (by decide) rfl (fun ls hl => ?_)
      refine lv_iload hx hb dgX7_close_58 (lv_at hl 0 rfl) ?_
      refine va_mabs hx hb (by rw [hml]; exact hl.1.symm) hown (hts (.methodLink RX7 106 Lib.Math.abs.name) (by decide +kernel)) (hts (.static Lib.Math.abs.name) (by decide +kernel)) (hts (.initialized "java/lang/Math") (by decide +kernel)) (hts (.code Lib.Math.abs.name Lib.Math.abs.code 1 (some .int)) (by decide +kernel)) (Nat.le_of_ble_eq_true rfl) (by decide) (Nat.le_of_ble_eq_true rfl) (Nat.le_of_ble_eq_true rfl) dgX7_close_60 ?_
      refine ow_topi (y := nI ((W9 i).1 + 1)) (ltr_abs (by omega)) ?_
      refine lv_iconst (v := 1) hx hb dgX7_close_63 (by decide) ?_
      refine lv_isub hx hb dgX7_close_64 ?_
      refine ow_topi (y := nI (W9 i).1) (ow_pred _) ?_
      refine lv_istore (lv' := [(9, .int (nI (W9 i).1)), (8, .int (ltr (W9 i))), (0, .ref aX), (1, .ref aL), (2, .int (nI at0)), (3, .int (nI cnt)), (4, .int (nI ns)), (5, .ref (nx 3)), (6, .ref (nx 6)), (7, .int (nI i))]) hx hb dgX7_close_65 hl (by decide) rfl (fun ls hl => ?_)
      have hr24 : (cl_r i (W9 i)) < 24 := by
        unfold cl_r
        split <;> omega
      have hf24 : (cl_f i (W9 i)) < 24 := by
        unfold cl_f
        split <;> omega
      have hxr : nI (cl_r i (W9 i)) ^^^ 1 = nI (cl_f i (W9 i)) := by
        rw [mt_xor (by omega)]
        unfold mt cl_r cl_f
        congr 1
        split <;> split <;> omega
      generalize hQe : (cl_run W9 (S, fun _ => none, fun _ => none, G) i) = Q at hP hD hf hh of oh hfl
      have hstp : (cl_run W9 (S, fun _ => none, fun _ => none, G) (i + 1)) = cl_step Q i (W9 i) := by rw [cl_run, hQe]
      have K85 : ∀ (H : Heap) (locs : List Loc) (ls : Array Slot), va_P (dC, dI) vwCl [(aX, .inr (10, [.ref (nx 0), .ref (nx 1), .ref (nx 2), .ref (nx 3), .ref (nx 4), .ref (nx 5), .ref (nx 6), .int (nI i), .int 0, .int x9, .int x10])), ((nx 0), .inl (cI, 24, .inl (ow_nI Q.1.1))), ((nx 1), .inl (cI, 24, .inl (ow_nI Q.1.2))), ((nx 2), .inl (cI, 12, .inl Q.2.2.2)), ((nx 3), .inl (cI, 24, .inl f)), ((nx 6), .inl (cI, 24, .inl h)), (aL, .inl (cB, nL, .inl Lt))] H → va_D A [(aX, .inr (10, [.ref (nx 0), .ref (nx 1), .ref (nx 2), .ref (nx 3), .ref (nx 4), .ref (nx 5), .ref (nx 6), .int (nI i), .int 0, .int x9, .int x10])), ((nx 0), .inl (cI, 24, .inl (ow_nI Q.1.1))), ((nx 1), .inl (cI, 24, .inl (ow_nI Q.1.2))), ((nx 2), .inl (cI, 12, .inl Q.2.2.2)), ((nx 3), .inl (cI, 24, .inl f)), ((nx 6), .inl (cI, 24, .inl h)), (aL, .inl (cB, nL, .inl Lt))] → va_S A s.heap H locs → lv_has ls 12 [(0, .ref aX), (1, .ref aL), (2, .int (nI at0)), (3, .int (nI cnt)), (4, .int (nI ns)), (5, .ref (nx 3)), (6, .ref (nx 6)), (7, .int (nI i)), (8, .int (ltr (W9 i))), (9, .int (nI (W9 i).1))] → W p l e ({ frames := 2, cells := 0, slots := 0, locals := 70 } : Room) s m ([.ref aX, .ref aL, .int (nI at0), .int (nI cnt), .int (nI ns)] : List Value).toArray below meth c H locs 0 0 QQ (F0 m 85 ls [.int (nI (cl_r i (W9 i)))]) := by
        intro H locs ls hP hD hS hl
        refine lv_istore (lv' := [(10, .int (nI (cl_r i (W9 i)))), (0, .ref aX), (1, .ref aL), (2, .int (nI at0)), (3, .int (nI cnt)), (4, .int (nI ns)), (5, .ref (nx 3)), (6, .ref (nx 6)), (7, .int (nI i)), (8, .int (ltr (W9 i))), (9, .int (nI (W9 i).1))]) hx hb dgX7_close_85 hl (by decide) rfl (fun ls hl => ?_)
        refine lv_iload hx hb dgX7_close_87 (lv_at hl 0 rfl) ?_
        refine lv_iconst (v := 1) hx hb dgX7_close_89 (by decide) ?_
        refine lv_ixor hx hb dgX7_close_90 ?_
        refine ow_topi (y := nI (cl_f i (W9 i))) (hxr) ?_
        refine lv_istore (lv' := [(11, .int (nI (cl_f i (W9 i)))), (10, .int (nI (cl_r i (W9 i)))), (0, .ref aX), (1, .ref aL), (2, .int (nI at0)), (3, .int (nI cnt)), (4, .int (nI ns)), (5, .ref (nx 3)), (6, .ref (nx 6)), (7, .int (nI i)), (8, .int (ltr (W9 i))), (9, .int (nI (W9 i).1))]) hx hb dgX7_close_91 hl (by decide) rfl (fun ls hl => ?_)
        refine lv_aload_n hx hb dgX7_close_93 rfl (lv_at hl 2 rfl) ?_
        refine lv_aload hx hb dgX7_close_94 (lv_at hl 7 rfl) ?_
        refine lv_aload hx hb dgX7_close_96 (lv_at hl 8 rfl) ?_
        refine lv_iload hx hb dgX7_close_98 (lv_at hl 11 rfl) ?_
        refine lv_iload hx hb dgX7_close_100 (lv_at hl 1 rfl) ?_
        have hx9 := cl_ext_ok (S := Q.1) (n := ns) (j := (W9 i).1) (v := (cl_r i (W9 i))) hf hh (by omega) of oh hr24
        have hPc := hP.sub (ws' := [(aX, .inr (10, [.ref (nx 0), .ref (nx 1), .ref (nx 2), .ref (nx 3), .ref (nx 4), .ref (nx 5), .ref (nx 6), .int (nI i), .int 0, .int x9, .int x10])), ((nx 0), .inl (cI, 24, .inl (ow_nI Q.1.1))), ((nx 1), .inl (cI, 24, .inl (ow_nI Q.1.2))), ((nx 3), .inl (cI, 24, .inl f)), ((nx 6), .inl (cI, 24, .inl h))]) [0, 1, 2, 4, 5] rfl
        have hDc := hD.sub (ws' := [(aX, .inr (10, [.ref (nx 0), .ref (nx 1), .ref (nx 2), .ref (nx 3), .ref (nx 4), .ref (nx 5), .ref (nx 6), .int (nI i), .int 0, .int x9, .int x10])), ((nx 0), .inl (cI, 24, .inl (ow_nI Q.1.1))), ((nx 1), .inl (cI, 24, .inl (ow_nI Q.1.2))), ((nx 3), .inl (cI, 24, .inl f)), ((nx 6), .inl (cI, 24, .inl h))]) [0, 1, 2, 4, 5] (by decide) rfl
        have hFc := va_free (wc := [(aX, .inr (10, [.ref (nx 0), .ref (nx 1), .ref (nx 2), .ref (nx 3), .ref (nx 4), .ref (nx 5), .ref (nx 6), .int (nI i), .int 0, .int x9, .int x10])), ((nx 0), .inl (cI, 24, .inl (ow_nI Q.1.1))), ((nx 1), .inl (cI, 24, .inl (ow_nI Q.1.2))), ((nx 3), .inl (cI, 24, .inl f)), ((nx 6), .inl (cI, 24, .inl h))]) hD hS hA [0, 1, 2, 4, 5] rfl
        refine va_callv (va_runV (As := [.ref (nx 3), .ref (nx 6), .int (nI ((W9 i).1)), .int (nI (cl_r i (W9 i)))]) (rest := []) ⟨hx, hb, hml, hown, hts⟩ (kg_X7_extend l dC dI cI cB cJ cZ aX nx (nI i) 0 x9 x10 (nx 3) (nx 6) f h Q.1 ((W9 i).1) (cl_r i (W9 i)) ((Q.2.2.1 ((W9 i).1)).getD 0) (by omega) (by omega) hx9.2.2.2 H.size) (cwV 4 hts gg_X7_close_2 rfl rfl rfl (by decide +kernel) ⟨(Nat.le_of_ble_eq_true rfl), (Nat.le_of_ble_eq_true rfl)⟩) ⟨fun a U g mk q => by obtain ⟨q0, q1, qP, qK, qD⟩ := q; exact ⟨q0, q1, qP, va_K.moved (u := U) (U := U.calling g mk a) (Vm.Alike.refl U.vm) qK, qD⟩, va_recv hK hPc (ci := 10) (q0 := 0) rfl rfl, fun U hU hW => ⟨rfl, by rw [hU], by rw [hU]; exact hPc, va_K.moved hW.alike hK, hDc.weaken (fun _ _ _ _ => trivial)⟩⟩ rfl rfl hl.1 rfl (lv_room (Nat.le_of_ble_eq_true rfl)) dgX7_close_102 ⟨(Nat.le_of_ble_eq_true rfl), (Nat.le_of_ble_eq_true rfl)⟩) hS (fun q _ h => hFc q h) hFc (fun u9 t H1 locs ht hvm hw hB hz1 hk1 hS => ?_)
        obtain ⟨hP1, hD1⟩ := hB
        rw [ht] at hP1
        obtain ⟨hP, hD⟩ := va_join (wr := [((nx 2), .inl (cI, 12, .inl Q.2.2.2)), (aL, .inl (cB, nL, .inl Lt))]) (w1 := [(aX, .inr (10, [.ref (nx 0), .ref (nx 1), .ref (nx 2), .ref (nx 3), .ref (nx 4), .ref (nx 5), .ref (nx 6), .int (nI i), .int 0, .int x9, .int x10])), ((nx 0), .inl (cI, 24, .inl (ow_nI (if h ((W9 i).1) = -1 then Q.1 else nl Q.1 ((Q.2.2.1 ((W9 i).1)).getD 0) (cl_r i (W9 i))).1))), ((nx 1), .inl (cI, 24, .inl (ow_nI (if h ((W9 i).1) = -1 then Q.1 else nl Q.1 ((Q.2.2.1 ((W9 i).1)).getD 0) (cl_r i (W9 i))).2))), ((nx 3), .inl (cI, 24, .inl (if h ((W9 i).1) = -1 then su f ((W9 i).1) (nI (cl_r i (W9 i))) else f))), ((nx 6), .inl (cI, 24, .inl h))]) hP hD [0, 1, 2, 4, 5] [3, 6] rfl rfl (by decide) (by decide) hk1 hFc hP1 hD1
        generalize H1 = H at hP hS ⊢
        have hP : va_P (dC, dI) vwCl [((nx 2), .inl (cI, 12, .inl Q.2.2.2)), (aL, .inl (cB, nL, .inl Lt)), (aX, .inr (10, [.ref (nx 0), .ref (nx 1), .ref (nx 2), .ref (nx 3), .ref (nx 4), .ref (nx 5), .ref (nx 6), .int (nI i), .int 0, .int x9, .int x10])), ((nx 0), .inl (cI, 24, .inl (ow_nI (if h ((W9 i).1) = -1 then Q.1 else nl Q.1 ((Q.2.2.1 ((W9 i).1)).getD 0) (cl_r i (W9 i))).1))), ((nx 1), .inl (cI, 24, .inl (ow_nI (if h ((W9 i).1) = -1 then Q.1 else nl Q.1 ((Q.2.2.1 ((W9 i).1)).getD 0) (cl_r i (W9 i))).2))), ((nx 3), .inl (cI, 24, .inl (if h ((W9 i).1) = -1 then su f ((W9 i).1) (nI (cl_r i (W9 i))) else f))), ((nx 6), .inl (cI, 24, .inl h))] H := hP
        have hD : va_D A [((nx 2), .inl (cI, 12, .inl Q.2.2.2)), (aL, .inl (cB, nL, .inl Lt)), (aX, .inr (10, [.ref (nx 0), .ref (nx 1), .ref (nx 2), .ref (nx 3), .ref (nx 4), .ref (nx 5), .ref (nx 6), .int (nI i), .int 0, .int x9, .int x10])), ((nx 0), .inl (cI, 24, .inl (ow_nI (if h ((W9 i).1) = -1 then Q.1 else nl Q.1 ((Q.2.2.1 ((W9 i).1)).getD 0) (cl_r i (W9 i))).1))), ((nx 1), .inl (cI, 24, .inl (ow_nI (if h ((W9 i).1) = -1 then Q.1 else nl Q.1 ((Q.2.2.1 ((W9 i).1)).getD 0) (cl_r i (W9 i))).2))), ((nx 3), .inl (cI, 24, .inl (if h ((W9 i).1) = -1 then su f ((W9 i).1) (nI (cl_r i (W9 i))) else f))), ((nx 6), .inl (cI, 24, .inl h))] := hD
        have hP := hP.sub (ws' := [(aX, .inr (10, [.ref (nx 0), .ref (nx 1), .ref (nx 2), .ref (nx 3), .ref (nx 4), .ref (nx 5), .ref (nx 6), .int (nI i), .int 0, .int x9, .int x10])), ((nx 0), .inl (cI, 24, .inl (ow_nI (if h ((W9 i).1) = -1 then Q.1 else nl Q.1 ((Q.2.2.1 ((W9 i).1)).getD 0) (cl_r i (W9 i))).1))), ((nx 1), .inl (cI, 24, .inl (ow_nI (if h ((W9 i).1) = -1 then Q.1 else nl Q.1 ((Q.2.2.1 ((W9 i).1)).getD 0) (cl_r i (W9 i))).2))), ((nx 2), .inl (cI, 12, .inl Q.2.2.2)), ((nx 3), .inl (cI, 24, .inl (if h ((W9 i).1) = -1 then su f ((W9 i).1) (nI (cl_r i (W9 i))) else f))), ((nx 6), .inl (cI, 24, .inl h)), (aL, .inl (cB, nL, .inl Lt))]) [2, 3, 4, 0, 5, 6, 1] rfl
        have hD := hD.sub (ws' := [(aX, .inr (10, [.ref (nx 0), .ref (nx 1), .ref (nx 2), .ref (nx 3), .ref (nx 4), .ref (nx 5), .ref (nx 6), .int (nI i), .int 0, .int x9, .int x10])), ((nx 0), .inl (cI, 24, .inl (ow_nI (if h ((W9 i).1) = -1 then Q.1 else nl Q.1 ((Q.2.2.1 ((W9 i).1)).getD 0) (cl_r i (W9 i))).1))), ((nx 1), .inl (cI, 24, .inl (ow_nI (if h ((W9 i).1) = -1 then Q.1 else nl Q.1 ((Q.2.2.1 ((W9 i).1)).getD 0) (cl_r i (W9 i))).2))), ((nx 2), .inl (cI, 12, .inl Q.2.2.2)), ((nx 3), .inl (cI, 24, .inl (if h ((W9 i).1) = -1 then su f ((W9 i).1) (nI (cl_r i (W9 i))) else f))), ((nx 6), .inl (cI, 24, .inl h)), (aL, .inl (cB, nL, .inl Lt))]) [2, 3, 4, 0, 5, 6, 1] (by decide) rfl
        rw [hx9.1] at hP hD
        have hP : va_P (dC, dI) vwCl [(aX, .inr (10, [.ref (nx 0), .ref (nx 1), .ref (nx 2), .ref (nx 3), .ref (nx 4), .ref (nx 5), .ref (nx 6), .int (nI i), .int 0, .int x9, .int x10])), ((nx 0), .inl (cI, 24, .inl (ow_nI ((cl_ext (Q.1, Q.2.1) Q.2.2.1 ((W9 i).1) (cl_r i (W9 i))).1).1))), ((nx 1), .inl (cI, 24, .inl (ow_nI ((cl_ext (Q.1, Q.2.1) Q.2.2.1 ((W9 i).1) (cl_r i (W9 i))).1).2))), ((nx 2), .inl (cI, 12, .inl Q.2.2.2)), ((nx 3), .inl (cI, 24, .inl (if h ((W9 i).1) = -1 then su f ((W9 i).1) (nI (cl_r i (W9 i))) else f))), ((nx 6), .inl (cI, 24, .inl h)), (aL, .inl (cB, nL, .inl Lt))] H := hP
        have hD : va_D A [(aX, .inr (10, [.ref (nx 0), .ref (nx 1), .ref (nx 2), .ref (nx 3), .ref (nx 4), .ref (nx 5), .ref (nx 6), .int (nI i), .int 0, .int x9, .int x10])), ((nx 0), .inl (cI, 24, .inl (ow_nI ((cl_ext (Q.1, Q.2.1) Q.2.2.1 ((W9 i).1) (cl_r i (W9 i))).1).1))), ((nx 1), .inl (cI, 24, .inl (ow_nI ((cl_ext (Q.1, Q.2.1) Q.2.2.1 ((W9 i).1) (cl_r i (W9 i))).1).2))), ((nx 2), .inl (cI, 12, .inl Q.2.2.2)), ((nx 3), .inl (cI, 24, .inl (if h ((W9 i).1) = -1 then su f ((W9 i).1) (nI (cl_r i (W9 i))) else f))), ((nx 6), .inl (cI, 24, .inl h)), (aL, .inl (cB, nL, .inl Lt))] := hD
        have hf1 := hx9.2.1
        have of1 := hx9.2.2.1
        generalize hF1 : (if h (W9 i).1 = -1 then su f (W9 i).1 (nI (cl_r i (W9 i))) else f) = f1 at hP hD hf1
        have hP : va_P (dC, dI) vwCl [(aX, .inr (10, [.ref (nx 0), .ref (nx 1), .ref (nx 2), .ref (nx 3), .ref (nx 4), .ref (nx 5), .ref (nx 6), .int (nI i), .int 0, .int x9, .int x10])), ((nx 0), .inl (cI, 24, .inl (ow_nI ((cl_ext (Q.1, Q.2.1) Q.2.2.1 (W9 i).1 (cl_r i (W9 i))).1).1))), ((nx 1), .inl (cI, 24, .inl (ow_nI ((cl_ext (Q.1, Q.2.1) Q.2.2.1 (W9 i).1 (cl_r i (W9 i))).1).2))), ((nx 2), .inl (cI, 12, .inl Q.2.2.2)), ((nx 3), .inl (cI, 24, .inl f1)), ((nx 6), .inl (cI, 24, .inl h)), (aL, .inl (cB, nL, .inl Lt))] H := hP
        have hD : va_D A [(aX, .inr (10, [.ref (nx 0), .ref (nx 1), .ref (nx 2), .ref (nx 3), .ref (nx 4), .ref (nx 5), .ref (nx 6), .int (nI i), .int 0, .int x9, .int x10])), ((nx 0), .inl (cI, 24, .inl (ow_nI ((cl_ext (Q.1, Q.2.1) Q.2.2.1 (W9 i).1 (cl_r i (W9 i))).1).1))), ((nx 1), .inl (cI, 24, .inl (ow_nI ((cl_ext (Q.1, Q.2.1) Q.2.2.1 (W9 i).1 (cl_r i (W9 i))).1).2))), ((nx 2), .inl (cI, 12, .inl Q.2.2.2)), ((nx 3), .inl (cI, 24, .inl f1)), ((nx 6), .inl (cI, 24, .inl h)), (aL, .inl (cB, nL, .inl Lt))] := hD
        refine lv_aload_n hx hb dgX7_close_105 rfl (lv_at hl 2 rfl) ?_
        refine lv_aload hx hb dgX7_close_106 (lv_at hl 7 rfl) ?_
        refine lv_aload hx hb dgX7_close_108 (lv_at hl 8 rfl) ?_
        refine lv_iload hx hb dgX7_close_110 (lv_at hl 11 rfl) ?_
        refine lv_iconst (v := 1) hx hb dgX7_close_112 (by decide) ?_
        refine lv_iadd hx hb dgX7_close_113 ?_
        refine ow_topi (y := nI ((W9 i).1 + 1)) (nI_1 ((W9 i).1)) ?_
        refine lv_iload hx hb dgX7_close_114 (lv_at hl 0 rfl) ?_
        have hx9 := cl_ext_ok (S := (cl_ext (Q.1, Q.2.1) Q.2.2.1 (W9 i).1 (cl_r i (W9 i))).1) (n := ns) (j := (W9 i).1 + 1) (v := (cl_f i (W9 i))) hf1 hh (by omega) of1 oh hf24
        have hPc := hP.sub (ws' := [(aX, .inr (10, [.ref (nx 0), .ref (nx 1), .ref (nx 2), .ref (nx 3), .ref (nx 4), .ref (nx 5), .ref (nx 6), .int (nI i), .int 0, .int x9, .int x10])), ((nx 0), .inl (cI, 24, .inl (ow_nI ((cl_ext (Q.1, Q.2.1) Q.2.2.1 (W9 i).1 (cl_r i (W9 i))).1).1))), ((nx 1), .inl (cI, 24, .inl (ow_nI ((cl_ext (Q.1, Q.2.1) Q.2.2.1 (W9 i).1 (cl_r i (W9 i))).1).2))), ((nx 3), .inl (cI, 24, .inl f1)), ((nx 6), .inl (cI, 24, .inl h))]) [0, 1, 2, 4, 5] rfl
        have hDc := hD.sub (ws' := [(aX, .inr (10, [.ref (nx 0), .ref (nx 1), .ref (nx 2), .ref (nx 3), .ref (nx 4), .ref (nx 5), .ref (nx 6), .int (nI i), .int 0, .int x9, .int x10])), ((nx 0), .inl (cI, 24, .inl (ow_nI ((cl_ext (Q.1, Q.2.1) Q.2.2.1 (W9 i).1 (cl_r i (W9 i))).1).1))), ((nx 1), .inl (cI, 24, .inl (ow_nI ((cl_ext (Q.1, Q.2.1) Q.2.2.1 (W9 i).1 (cl_r i (W9 i))).1).2))), ((nx 3), .inl (cI, 24, .inl f1)), ((nx 6), .inl (cI, 24, .inl h))]) [0, 1, 2, 4, 5] (by decide) rfl
        have hFc := va_free (wc := [(aX, .inr (10, [.ref (nx 0), .ref (nx 1), .ref (nx 2), .ref (nx 3), .ref (nx 4), .ref (nx 5), .ref (nx 6), .int (nI i), .int 0, .int x9, .int x10])), ((nx 0), .inl (cI, 24, .inl (ow_nI ((cl_ext (Q.1, Q.2.1) Q.2.2.1 (W9 i).1 (cl_r i (W9 i))).1).1))), ((nx 1), .inl (cI, 24, .inl (ow_nI ((cl_ext (Q.1, Q.2.1) Q.2.2.1 (W9 i).1 (cl_r i (W9 i))).1).2))), ((nx 3), .inl (cI, 24, .inl f1)), ((nx 6), .inl (cI, 24, .inl h))]) hD hS hA [0, 1, 2, 4, 5] rfl
        refine va_callv (va_runV (As := [.ref (nx 3), .ref (nx 6), .int (nI ((W9 i).1 + 1)), .int (nI (cl_f i (W9 i)))]) (rest := []) ⟨hx, hb, hml, hown, hts⟩ (kg_X7_extend l dC dI cI cB cJ cZ aX nx (nI i) 0 x9 x10 (nx 3) (nx 6) f1 h (cl_ext (Q.1, Q.2.1) Q.2.2.1 (W9 i).1 (cl_r i (W9 i))).1 ((W9 i).1 + 1) (cl_f i (W9 i)) ((Q.2.2.1 ((W9 i).1 + 1)).getD 0) (by omega) (by omega) hx9.2.2.2 H.size) (cwV 4 hts gg_X7_close_2 rfl rfl rfl (by decide +kernel) ⟨(Nat.le_of_ble_eq_true rfl), (Nat.le_of_ble_eq_true rfl)⟩) ⟨fun a U g mk q => by obtain ⟨q0, q1, qP, qK, qD⟩ := q; exact ⟨q0, q1, qP, va_K.moved (u := U) (U := U.calling g mk a) (Vm.Alike.refl U.vm) qK, qD⟩, va_recv hK hPc (ci := 10) (q0 := 0) rfl rfl, fun U hU hW => ⟨rfl, by rw [hU], by rw [hU]; exact hPc, va_K.moved hW.alike hK, hDc.weaken (fun _ _ _ _ => trivial)⟩⟩ rfl rfl hl.1 rfl (lv_room (Nat.le_of_ble_eq_true rfl)) dgX7_close_116 ⟨(Nat.le_of_ble_eq_true rfl), (Nat.le_of_ble_eq_true rfl)⟩) hS (fun q _ h => hFc q h) hFc (fun u9 t H1 locs ht hvm hw hB hz1 hk1 hS => ?_)
        obtain ⟨hP1, hD1⟩ := hB
        rw [ht] at hP1
        obtain ⟨hP, hD⟩ := va_join (wr := [((nx 2), .inl (cI, 12, .inl Q.2.2.2)), (aL, .inl (cB, nL, .inl Lt))]) (w1 := [(aX, .inr (10, [.ref (nx 0), .ref (nx 1), .ref (nx 2), .ref (nx 3), .ref (nx 4), .ref (nx 5), .ref (nx 6), .int (nI i), .int 0, .int x9, .int x10])), ((nx 0), .inl (cI, 24, .inl (ow_nI (if h ((W9 i).1 + 1) = -1 then (cl_ext (Q.1, Q.2.1) Q.2.2.1 (W9 i).1 (cl_r i (W9 i))).1 else nl (cl_ext (Q.1, Q.2.1) Q.2.2.1 (W9 i).1 (cl_r i (W9 i))).1 ((Q.2.2.1 ((W9 i).1 + 1)).getD 0) (cl_f i (W9 i))).1))), ((nx 1), .inl (cI, 24, .inl (ow_nI (if h ((W9 i).1 + 1) = -1 then (cl_ext (Q.1, Q.2.1) Q.2.2.1 (W9 i).1 (cl_r i (W9 i))).1 else nl (cl_ext (Q.1, Q.2.1) Q.2.2.1 (W9 i).1 (cl_r i (W9 i))).1 ((Q.2.2.1 ((W9 i).1 + 1)).getD 0) (cl_f i (W9 i))).2))), ((nx 3), .inl (cI, 24, .inl (if h ((W9 i).1 + 1) = -1 then su f1 ((W9 i).1 + 1) (nI (cl_f i (W9 i))) else f1))), ((nx 6), .inl (cI, 24, .inl h))]) hP hD [0, 1, 2, 4, 5] [3, 6] rfl rfl (by decide) (by decide) hk1 hFc hP1 hD1
        generalize H1 = H at hP hS ⊢
        have hP : va_P (dC, dI) vwCl [((nx 2), .inl (cI, 12, .inl Q.2.2.2)), (aL, .inl (cB, nL, .inl Lt)), (aX, .inr (10, [.ref (nx 0), .ref (nx 1), .ref (nx 2), .ref (nx 3), .ref (nx 4), .ref (nx 5), .ref (nx 6), .int (nI i), .int 0, .int x9, .int x10])), ((nx 0), .inl (cI, 24, .inl (ow_nI (if h ((W9 i).1 + 1) = -1 then (cl_ext (Q.1, Q.2.1) Q.2.2.1 (W9 i).1 (cl_r i (W9 i))).1 else nl (cl_ext (Q.1, Q.2.1) Q.2.2.1 (W9 i).1 (cl_r i (W9 i))).1 ((Q.2.2.1 ((W9 i).1 + 1)).getD 0) (cl_f i (W9 i))).1))), ((nx 1), .inl (cI, 24, .inl (ow_nI (if h ((W9 i).1 + 1) = -1 then (cl_ext (Q.1, Q.2.1) Q.2.2.1 (W9 i).1 (cl_r i (W9 i))).1 else nl (cl_ext (Q.1, Q.2.1) Q.2.2.1 (W9 i).1 (cl_r i (W9 i))).1 ((Q.2.2.1 ((W9 i).1 + 1)).getD 0) (cl_f i (W9 i))).2))), ((nx 3), .inl (cI, 24, .inl (if h ((W9 i).1 + 1) = -1 then su f1 ((W9 i).1 + 1) (nI (cl_f i (W9 i))) else f1))), ((nx 6), .inl (cI, 24, .inl h))] H := hP
        have hD : va_D A [((nx 2), .inl (cI, 12, .inl Q.2.2.2)), (aL, .inl (cB, nL, .inl Lt)), (aX, .inr (10, [.ref (nx 0), .ref (nx 1), .ref (nx 2), .ref (nx 3), .ref (nx 4), .ref (nx 5), .ref (nx 6), .int (nI i), .int 0, .int x9, .int x10])), ((nx 0), .inl (cI, 24, .inl (ow_nI (if h ((W9 i).1 + 1) = -1 then (cl_ext (Q.1, Q.2.1) Q.2.2.1 (W9 i).1 (cl_r i (W9 i))).1 else nl (cl_ext (Q.1, Q.2.1) Q.2.2.1 (W9 i).1 (cl_r i (W9 i))).1 ((Q.2.2.1 ((W9 i).1 + 1)).getD 0) (cl_f i (W9 i))).1))), ((nx 1), .inl (cI, 24, .inl (ow_nI (if h ((W9 i).1 + 1) = -1 then (cl_ext (Q.1, Q.2.1) Q.2.2.1 (W9 i).1 (cl_r i (W9 i))).1 else nl (cl_ext (Q.1, Q.2.1) Q.2.2.1 (W9 i).1 (cl_r i (W9 i))).1 ((Q.2.2.1 ((W9 i).1 + 1)).getD 0) (cl_f i (W9 i))).2))), ((nx 3), .inl (cI, 24, .inl (if h ((W9 i).1 + 1) = -1 then su f1 ((W9 i).1 + 1) (nI (cl_f i (W9 i))) else f1))), ((nx 6), .inl (cI, 24, .inl h))] := hD
        have hP := hP.sub (ws' := [(aX, .inr (10, [.ref (nx 0), .ref (nx 1), .ref (nx 2), .ref (nx 3), .ref (nx 4), .ref (nx 5), .ref (nx 6), .int (nI i), .int 0, .int x9, .int x10])), ((nx 0), .inl (cI, 24, .inl (ow_nI (if h ((W9 i).1 + 1) = -1 then (cl_ext (Q.1, Q.2.1) Q.2.2.1 (W9 i).1 (cl_r i (W9 i))).1 else nl (cl_ext (Q.1, Q.2.1) Q.2.2.1 (W9 i).1 (cl_r i (W9 i))).1 ((Q.2.2.1 ((W9 i).1 + 1)).getD 0) (cl_f i (W9 i))).1))), ((nx 1), .inl (cI, 24, .inl (ow_nI (if h ((W9 i).1 + 1) = -1 then (cl_ext (Q.1, Q.2.1) Q.2.2.1 (W9 i).1 (cl_r i (W9 i))).1 else nl (cl_ext (Q.1, Q.2.1) Q.2.2.1 (W9 i).1 (cl_r i (W9 i))).1 ((Q.2.2.1 ((W9 i).1 + 1)).getD 0) (cl_f i (W9 i))).2))), ((nx 2), .inl (cI, 12, .inl Q.2.2.2)), ((nx 3), .inl (cI, 24, .inl (if h ((W9 i).1 + 1) = -1 then su f1 ((W9 i).1 + 1) (nI (cl_f i (W9 i))) else f1))), ((nx 6), .inl (cI, 24, .inl h)), (aL, .inl (cB, nL, .inl Lt))]) [2, 3, 4, 0, 5, 6, 1] rfl
        have hD := hD.sub (ws' := [(aX, .inr (10, [.ref (nx 0), .ref (nx 1), .ref (nx 2), .ref (nx 3), .ref (nx 4), .ref (nx 5), .ref (nx 6), .int (nI i), .int 0, .int x9, .int x10])), ((nx 0), .inl (cI, 24, .inl (ow_nI (if h ((W9 i).1 + 1) = -1 then (cl_ext (Q.1, Q.2.1) Q.2.2.1 (W9 i).1 (cl_r i (W9 i))).1 else nl (cl_ext (Q.1, Q.2.1) Q.2.2.1 (W9 i).1 (cl_r i (W9 i))).1 ((Q.2.2.1 ((W9 i).1 + 1)).getD 0) (cl_f i (W9 i))).1))), ((nx 1), .inl (cI, 24, .inl (ow_nI (if h ((W9 i).1 + 1) = -1 then (cl_ext (Q.1, Q.2.1) Q.2.2.1 (W9 i).1 (cl_r i (W9 i))).1 else nl (cl_ext (Q.1, Q.2.1) Q.2.2.1 (W9 i).1 (cl_r i (W9 i))).1 ((Q.2.2.1 ((W9 i).1 + 1)).getD 0) (cl_f i (W9 i))).2))), ((nx 2), .inl (cI, 12, .inl Q.2.2.2)), ((nx 3), .inl (cI, 24, .inl (if h ((W9 i).1 + 1) = -1 then su f1 ((W9 i).1 + 1) (nI (cl_f i (W9 i))) else f1))), ((nx 6), .inl (cI, 24, .inl h)), (aL, .inl (cB, nL, .inl Lt))]) [2, 3, 4, 0, 5, 6, 1] (by decide) rfl
        rw [hx9.1] at hP hD
        have hP : va_P (dC, dI) vwCl [(aX, .inr (10, [.ref (nx 0), .ref (nx 1), .ref (nx 2), .ref (nx 3), .ref (nx 4), .ref (nx 5), .ref (nx 6), .int (nI i), .int 0, .int x9, .int x10])), ((nx 0), .inl (cI, 24, .inl (ow_nI ((cl_ext ((cl_ext (Q.1, Q.2.1) Q.2.2.1 (W9 i).1 (cl_r i (W9 i))).1, (cl_ext (Q.1, Q.2.1) Q.2.2.1 (W9 i).1 (cl_r i (W9 i))).2) Q.2.2.1 ((W9 i).1 + 1) (cl_f i (W9 i))).1).1))), ((nx 1), .inl (cI, 24, .inl (ow_nI ((cl_ext ((cl_ext (Q.1, Q.2.1) Q.2.2.1 (W9 i).1 (cl_r i (W9 i))).1, (cl_ext (Q.1, Q.2.1) Q.2.2.1 (W9 i).1 (cl_r i (W9 i))).2) Q.2.2.1 ((W9 i).1 + 1) (cl_f i (W9 i))).1).2))), ((nx 2), .inl (cI, 12, .inl Q.2.2.2)), ((nx 3), .inl (cI, 24, .inl (if h ((W9 i).1 + 1) = -1 then su f1 ((W9 i).1 + 1) (nI (cl_f i (W9 i))) else f1))), ((nx 6), .inl (cI, 24, .inl h)), (aL, .inl (cB, nL, .inl Lt))] H := hP
        have hD : va_D A [(aX, .inr (10, [.ref (nx 0), .ref (nx 1), .ref (nx 2), .ref (nx 3), .ref (nx 4), .ref (nx 5), .ref (nx 6), .int (nI i), .int 0, .int x9, .int x10])), ((nx 0), .inl (cI, 24, .inl (ow_nI ((cl_ext ((cl_ext (Q.1, Q.2.1) Q.2.2.1 (W9 i).1 (cl_r i (W9 i))).1, (cl_ext (Q.1, Q.2.1) Q.2.2.1 (W9 i).1 (cl_r i (W9 i))).2) Q.2.2.1 ((W9 i).1 + 1) (cl_f i (W9 i))).1).1))), ((nx 1), .inl (cI, 24, .inl (ow_nI ((cl_ext ((cl_ext (Q.1, Q.2.1) Q.2.2.1 (W9 i).1 (cl_r i (W9 i))).1, (cl_ext (Q.1, Q.2.1) Q.2.2.1 (W9 i).1 (cl_r i (W9 i))).2) Q.2.2.1 ((W9 i).1 + 1) (cl_f i (W9 i))).1).2))), ((nx 2), .inl (cI, 12, .inl Q.2.2.2)), ((nx 3), .inl (cI, 24, .inl (if h ((W9 i).1 + 1) = -1 then su f1 ((W9 i).1 + 1) (nI (cl_f i (W9 i))) else f1))), ((nx 6), .inl (cI, 24, .inl h)), (aL, .inl (cB, nL, .inl Lt))] := hD
        have hf2 := hx9.2.1
        have of2 := hx9.2.2.1
        generalize hF2 : (if h ((W9 i).1 + 1) = -1 then su f1 ((W9 i).1 + 1) (nI (cl_f i (W9 i))) else f1) = f2 at hP hD hf2
        have hP : va_P (dC, dI) vwCl [(aX, .inr (10, [.ref (nx 0), .ref (nx 1), .ref (nx 2), .ref (nx 3), .ref (nx 4), .ref (nx 5), .ref (nx 6), .int (nI i), .int 0, .int x9, .int x10])), ((nx 0), .inl (cI, 24, .inl (ow_nI ((cl_ext ((cl_ext (Q.1, Q.2.1) Q.2.2.1 (W9 i).1 (cl_r i (W9 i))).1, (cl_ext (Q.1, Q.2.1) Q.2.2.1 (W9 i).1 (cl_r i (W9 i))).2) Q.2.2.1 ((W9 i).1 + 1) (cl_f i (W9 i))).1).1))), ((nx 1), .inl (cI, 24, .inl (ow_nI ((cl_ext ((cl_ext (Q.1, Q.2.1) Q.2.2.1 (W9 i).1 (cl_r i (W9 i))).1, (cl_ext (Q.1, Q.2.1) Q.2.2.1 (W9 i).1 (cl_r i (W9 i))).2) Q.2.2.1 ((W9 i).1 + 1) (cl_f i (W9 i))).1).2))), ((nx 2), .inl (cI, 12, .inl Q.2.2.2)), ((nx 3), .inl (cI, 24, .inl f2)), ((nx 6), .inl (cI, 24, .inl h)), (aL, .inl (cB, nL, .inl Lt))] H := hP
        have hD : va_D A [(aX, .inr (10, [.ref (nx 0), .ref (nx 1), .ref (nx 2), .ref (nx 3), .ref (nx 4), .ref (nx 5), .ref (nx 6), .int (nI i), .int 0, .int x9, .int x10])), ((nx 0), .inl (cI, 24, .inl (ow_nI ((cl_ext ((cl_ext (Q.1, Q.2.1) Q.2.2.1 (W9 i).1 (cl_r i (W9 i))).1, (cl_ext (Q.1, Q.2.1) Q.2.2.1 (W9 i).1 (cl_r i (W9 i))).2) Q.2.2.1 ((W9 i).1 + 1) (cl_f i (W9 i))).1).1))), ((nx 1), .inl (cI, 24, .inl (ow_nI ((cl_ext ((cl_ext (Q.1, Q.2.1) Q.2.2.1 (W9 i).1 (cl_r i (W9 i))).1, (cl_ext (Q.1, Q.2.1) Q.2.2.1 (W9 i).1 (cl_r i (W9 i))).2) Q.2.2.1 ((W9 i).1 + 1) (cl_f i (W9 i))).1).2))), ((nx 2), .inl (cI, 12, .inl Q.2.2.2)), ((nx 3), .inl (cI, 24, .inl f2)), ((nx 6), .inl (cI, 24, .inl h)), (aL, .inl (cB, nL, .inl Lt))] := hD
        refine lv_aload hx hb dgX7_close_119 (lv_at hl 8 rfl) ?_
        refine lv_iload hx hb dgX7_close_121 (lv_at hl 11 rfl) ?_
        refine lv_iload hx hb dgX7_close_123 (lv_at hl 0 rfl) ?_
        refine ow_iastF (j := (W9 i).1) (x := nI (cl_f i (W9 i))) hx hb hK hP hD hS 5 0 rfl rfl (by omega) (by decide) dgX7_close_125 (fun H locs hP hD hS => ?_)
        have hP : va_P (dC, dI) vwCl [(aX, .inr (10, [.ref (nx 0), .ref (nx 1), .ref (nx 2), .ref (nx 3), .ref (nx 4), .ref (nx 5), .ref (nx 6), .int (nI i), .int 0, .int x9, .int x10])), ((nx 0), .inl (cI, 24, .inl (ow_nI ((cl_ext ((cl_ext (Q.1, Q.2.1) Q.2.2.1 (W9 i).1 (cl_r i (W9 i))).1, (cl_ext (Q.1, Q.2.1) Q.2.2.1 (W9 i).1 (cl_r i (W9 i))).2) Q.2.2.1 ((W9 i).1 + 1) (cl_f i (W9 i))).1).1))), ((nx 1), .inl (cI, 24, .inl (ow_nI ((cl_ext ((cl_ext (Q.1, Q.2.1) Q.2.2.1 (W9 i).1 (cl_r i (W9 i))).1, (cl_ext (Q.1, Q.2.1) Q.2.2.1 (W9 i).1 (cl_r i (W9 i))).2) Q.2.2.1 ((W9 i).1 + 1) (cl_f i (W9 i))).1).2))), ((nx 2), .inl (cI, 12, .inl Q.2.2.2)), ((nx 3), .inl (cI, 24, .inl f2)), ((nx 6), .inl (cI, 24, .inl (su h ((W9 i).1) (nI (cl_f i (W9 i)))))), (aL, .inl (cB, nL, .inl Lt))] H := hP
        have hD : va_D A [(aX, .inr (10, [.ref (nx 0), .ref (nx 1), .ref (nx 2), .ref (nx 3), .ref (nx 4), .ref (nx 5), .ref (nx 6), .int (nI i), .int 0, .int x9, .int x10])), ((nx 0), .inl (cI, 24, .inl (ow_nI ((cl_ext ((cl_ext (Q.1, Q.2.1) Q.2.2.1 (W9 i).1 (cl_r i (W9 i))).1, (cl_ext (Q.1, Q.2.1) Q.2.2.1 (W9 i).1 (cl_r i (W9 i))).2) Q.2.2.1 ((W9 i).1 + 1) (cl_f i (W9 i))).1).1))), ((nx 1), .inl (cI, 24, .inl (ow_nI ((cl_ext ((cl_ext (Q.1, Q.2.1) Q.2.2.1 (W9 i).1 (cl_r i (W9 i))).1, (cl_ext (Q.1, Q.2.1) Q.2.2.1 (W9 i).1 (cl_r i (W9 i))).2) Q.2.2.1 ((W9 i).1 + 1) (cl_f i (W9 i))).1).2))), ((nx 2), .inl (cI, 12, .inl Q.2.2.2)), ((nx 3), .inl (cI, 24, .inl f2)), ((nx 6), .inl (cI, 24, .inl (su h ((W9 i).1) (nI (cl_f i (W9 i)))))), (aL, .inl (cB, nL, .inl Lt))] := hD
        refine lv_aload hx hb dgX7_close_126 (lv_at hl 8 rfl) ?_
        refine lv_iload hx hb dgX7_close_128 (lv_at hl 11 rfl) ?_
        refine lv_iconst (v := 1) hx hb dgX7_close_130 (by decide) ?_
        refine lv_iadd hx hb dgX7_close_131 ?_
        refine ow_topi (y := nI ((W9 i).1 + 1)) (nI_1 ((W9 i).1)) ?_
        refine lv_iload hx hb dgX7_close_132 (lv_at hl 1 rfl) ?_
        refine ow_iastF (j := (W9 i).1 + 1) (x := nI (cl_r i (W9 i))) hx hb hK hP hD hS 5 0 rfl rfl (by omega) (by decide) dgX7_close_134 (fun H locs hP hD hS => ?_)
        have hP : va_P (dC, dI) vwCl [(aX, .inr (10, [.ref (nx 0), .ref (nx 1), .ref (nx 2), .ref (nx 3), .ref (nx 4), .ref (nx 5), .ref (nx 6), .int (nI i), .int 0, .int x9, .int x10])), ((nx 0), .inl (cI, 24, .inl (ow_nI ((cl_ext ((cl_ext (Q.1, Q.2.1) Q.2.2.1 (W9 i).1 (cl_r i (W9 i))).1, (cl_ext (Q.1, Q.2.1) Q.2.2.1 (W9 i).1 (cl_r i (W9 i))).2) Q.2.2.1 ((W9 i).1 + 1) (cl_f i (W9 i))).1).1))), ((nx 1), .inl (cI, 24, .inl (ow_nI ((cl_ext ((cl_ext (Q.1, Q.2.1) Q.2.2.1 (W9 i).1 (cl_r i (W9 i))).1, (cl_ext (Q.1, Q.2.1) Q.2.2.1 (W9 i).1 (cl_r i (W9 i))).2) Q.2.2.1 ((W9 i).1 + 1) (cl_f i (W9 i))).1).2))), ((nx 2), .inl (cI, 12, .inl Q.2.2.2)), ((nx 3), .inl (cI, 24, .inl f2)), ((nx 6), .inl (cI, 24, .inl (su (su h ((W9 i).1) (nI (cl_f i (W9 i)))) ((W9 i).1 + 1) (nI (cl_r i (W9 i)))))), (aL, .inl (cB, nL, .inl Lt))] H := hP
        have hD : va_D A [(aX, .inr (10, [.ref (nx 0), .ref (nx 1), .ref (nx 2), .ref (nx 3), .ref (nx 4), .ref (nx 5), .ref (nx 6), .int (nI i), .int 0, .int x9, .int x10])), ((nx 0), .inl (cI, 24, .inl (ow_nI ((cl_ext ((cl_ext (Q.1, Q.2.1) Q.2.2.1 (W9 i).1 (cl_r i (W9 i))).1, (cl_ext (Q.1, Q.2.1) Q.2.2.1 (W9 i).1 (cl_r i (W9 i))).2) Q.2.2.1 ((W9 i).1 + 1) (cl_f i (W9 i))).1).1))), ((nx 1), .inl (cI, 24, .inl (ow_nI ((cl_ext ((cl_ext (Q.1, Q.2.1) Q.2.2.1 (W9 i).1 (cl_r i (W9 i))).1, (cl_ext (Q.1, Q.2.1) Q.2.2.1 (W9 i).1 (cl_r i (W9 i))).2) Q.2.2.1 ((W9 i).1 + 1) (cl_f i (W9 i))).1).2))), ((nx 2), .inl (cI, 12, .inl Q.2.2.2)), ((nx 3), .inl (cI, 24, .inl f2)), ((nx 6), .inl (cI, 24, .inl (su (su h ((W9 i).1) (nI (cl_f i (W9 i)))) ((W9 i).1 + 1) (nI (cl_r i (W9 i)))))), (aL, .inl (cB, nL, .inl Lt))] := hD
        refine lv_aload_n hx hb dgX7_close_135 rfl (lv_at hl 2 rfl) ?_
        refine va_get (D := (dC, dI)) (ci := 10) (v := .ref (nx 2)) (C := RX7) (T := TX7) (N := 11) hx hb hts (fun _ h => List.mem_cons_of_mem _ (List.mem_append_left _ (List.mem_append_right _ h))) hown hK hP 0 rfl rfl 2 (by decide) (hts (.fieldLink RX7 18 "KnotHouse$Net" "sign" "[I") (by decide +kernel)) (fun _ h9 => h9) rfl dgX7_close_136 ?_
        refine lv_iload hx hb dgX7_close_139 (lv_at hl 9 rfl) ?_
        have hh2 := rlo_su (j := (W9 i).1 + 1) (v := (cl_r i (W9 i))) (rlo_su (j := (W9 i).1) (v := (cl_f i (W9 i))) hh)
        cases hup : (W9 i).2 with
        | false =>
          refine lv_iload hx hb dgX7_close_141 (lv_at hl 10 rfl) ?_
          refine lv_if_le (tgt := 150) hx hb dgX7_close_143 (by decide) (fun _ => ?_) (fun c9 => absurd ((ltr_le (by omega)).mpr hup) c9)
          refine lv_iconst (v := (-1)) hx hb dgX7_close_150 (by decide) ?_
          refine ow_iastF (j := i) (x := (-1)) hx hb hK hP hD hS 3 0 rfl rfl (by omega) (by decide) dgX7_close_151 (fun H locs hP hD hS => ?_)
          have hP : va_P (dC, dI) vwCl [(aX, .inr (10, [.ref (nx 0), .ref (nx 1), .ref (nx 2), .ref (nx 3), .ref (nx 4), .ref (nx 5), .ref (nx 6), .int (nI i), .int 0, .int x9, .int x10])), ((nx 0), .inl (cI, 24, .inl (ow_nI ((cl_ext ((cl_ext (Q.1, Q.2.1) Q.2.2.1 (W9 i).1 (cl_r i (W9 i))).1, (cl_ext (Q.1, Q.2.1) Q.2.2.1 (W9 i).1 (cl_r i (W9 i))).2) Q.2.2.1 ((W9 i).1 + 1) (cl_f i (W9 i))).1).1))), ((nx 1), .inl (cI, 24, .inl (ow_nI ((cl_ext ((cl_ext (Q.1, Q.2.1) Q.2.2.1 (W9 i).1 (cl_r i (W9 i))).1, (cl_ext (Q.1, Q.2.1) Q.2.2.1 (W9 i).1 (cl_r i (W9 i))).2) Q.2.2.1 ((W9 i).1 + 1) (cl_f i (W9 i))).1).2))), ((nx 2), .inl (cI, 12, .inl (su Q.2.2.2 i (-1)))), ((nx 3), .inl (cI, 24, .inl f2)), ((nx 6), .inl (cI, 24, .inl (su (su h ((W9 i).1) (nI (cl_f i (W9 i)))) ((W9 i).1 + 1) (nI (cl_r i (W9 i)))))), (aL, .inl (cB, nL, .inl Lt))] H := hP
          have hD : va_D A [(aX, .inr (10, [.ref (nx 0), .ref (nx 1), .ref (nx 2), .ref (nx 3), .ref (nx 4), .ref (nx 5), .ref (nx 6), .int (nI i), .int 0, .int x9, .int x10])), ((nx 0), .inl (cI, 24, .inl (ow_nI ((cl_ext ((cl_ext (Q.1, Q.2.1) Q.2.2.1 (W9 i).1 (cl_r i (W9 i))).1, (cl_ext (Q.1, Q.2.1) Q.2.2.1 (W9 i).1 (cl_r i (W9 i))).2) Q.2.2.1 ((W9 i).1 + 1) (cl_f i (W9 i))).1).1))), ((nx 1), .inl (cI, 24, .inl (ow_nI ((cl_ext ((cl_ext (Q.1, Q.2.1) Q.2.2.1 (W9 i).1 (cl_r i (W9 i))).1, (cl_ext (Q.1, Q.2.1) Q.2.2.1 (W9 i).1 (cl_r i (W9 i))).2) Q.2.2.1 ((W9 i).1 + 1) (cl_f i (W9 i))).1).2))), ((nx 2), .inl (cI, 12, .inl (su Q.2.2.2 i (-1)))), ((nx 3), .inl (cI, 24, .inl f2)), ((nx 6), .inl (cI, 24, .inl (su (su h ((W9 i).1) (nI (cl_f i (W9 i)))) ((W9 i).1 + 1) (nI (cl_r i (W9 i)))))), (aL, .inl (cB, nL, .inl Lt))] := hD
          refine lv_aload_n hx hb dgX7_close_152 rfl (lv_at hl 2 rfl) ?_
          refine lv_dup hx hb dgX7_close_153 rfl ?_
          refine va_get (D := (dC, dI)) (ci := 10) (v := .int (nI i)) (C := RX7) (T := TX7) (N := 11) hx hb hts (fun _ h => List.mem_cons_of_mem _ (List.mem_append_left _ (List.mem_append_right _ h))) hown hK hP 0 rfl rfl 7 (by decide) (hts (.fieldLink RX7 39 "KnotHouse$Net" "crossings" "I") (by decide +kernel)) (fun _ h9 => h9) rfl dgX7_close_154 ?_
          refine lv_iconst (v := 1) hx hb dgX7_close_157 (by decide) ?_
          refine lv_iadd hx hb dgX7_close_158 ?_
          refine ow_topi (y := nI (i + 1)) (nI_1 (i)) ?_
          refine va_put (D := (dC, dI)) (ci := 10) (v := .int (nI (i + 1))) (ty := .int) (C := RX7) (T := TX7) (N := 11) hx hb hts (fun _ h => List.mem_cons_of_mem _ (List.mem_append_left _ (List.mem_append_right _ h))) tyX7 tyX7_ok nmX7 hown hK hP hD hS 0 rfl rfl 7 (by decide) (hts (.fieldLink RX7 39 "KnotHouse$Net" "crossings" "I") (by decide +kernel)) (fun _ h9 => h9) rfl (by decide +kernel) rfl rfl (Nat.le_of_ble_eq_true rfl) dgX7_close_159 (fun H locs hP hD hS => ?_)
          have hP : va_P (dC, dI) vwCl [(aX, .inr (10, [.ref (nx 0), .ref (nx 1), .ref (nx 2), .ref (nx 3), .ref (nx 4), .ref (nx 5), .ref (nx 6), .int (nI (i + 1)), .int 0, .int x9, .int x10])), ((nx 0), .inl (cI, 24, .inl (ow_nI ((cl_ext ((cl_ext (Q.1, Q.2.1) Q.2.2.1 (W9 i).1 (cl_r i (W9 i))).1, (cl_ext (Q.1, Q.2.1) Q.2.2.1 (W9 i).1 (cl_r i (W9 i))).2) Q.2.2.1 ((W9 i).1 + 1) (cl_f i (W9 i))).1).1))), ((nx 1), .inl (cI, 24, .inl (ow_nI ((cl_ext ((cl_ext (Q.1, Q.2.1) Q.2.2.1 (W9 i).1 (cl_r i (W9 i))).1, (cl_ext (Q.1, Q.2.1) Q.2.2.1 (W9 i).1 (cl_r i (W9 i))).2) Q.2.2.1 ((W9 i).1 + 1) (cl_f i (W9 i))).1).2))), ((nx 2), .inl (cI, 12, .inl (su Q.2.2.2 i (-1)))), ((nx 3), .inl (cI, 24, .inl f2)), ((nx 6), .inl (cI, 24, .inl (su (su h ((W9 i).1) (nI (cl_f i (W9 i)))) ((W9 i).1 + 1) (nI (cl_r i (W9 i)))))), (aL, .inl (cB, nL, .inl Lt))] H := hP
          have hD : va_D A [(aX, .inr (10, [.ref (nx 0), .ref (nx 1), .ref (nx 2), .ref (nx 3), .ref (nx 4), .ref (nx 5), .ref (nx 6), .int (nI (i + 1)), .int 0, .int x9, .int x10])), ((nx 0), .inl (cI, 24, .inl (ow_nI ((cl_ext ((cl_ext (Q.1, Q.2.1) Q.2.2.1 (W9 i).1 (cl_r i (W9 i))).1, (cl_ext (Q.1, Q.2.1) Q.2.2.1 (W9 i).1 (cl_r i (W9 i))).2) Q.2.2.1 ((W9 i).1 + 1) (cl_f i (W9 i))).1).1))), ((nx 1), .inl (cI, 24, .inl (ow_nI ((cl_ext ((cl_ext (Q.1, Q.2.1) Q.2.2.1 (W9 i).1 (cl_r i (W9 i))).1, (cl_ext (Q.1, Q.2.1) Q.2.2.1 (W9 i).1 (cl_r i (W9 i))).2) Q.2.2.1 ((W9 i).1 + 1) (cl_f i (W9 i))).1).2))), ((nx 2), .inl (cI, 12, .inl (su Q.2.2.2 i (-1)))), ((nx 3), .inl (cI, 24, .inl f2)), ((nx 6), .inl (cI, 24, .inl (su (su h ((W9 i).1) (nI (cl_f i (W9 i)))) ((W9 i).1 + 1) (nI (cl_r i (W9 i)))))), (aL, .inl (cB, nL, .inl Lt))] := hD
          have hsg : (if (W9 i).2 = true then (1 : Int32) else -1) = -1 := if_neg (by rw [hup]; decide)
          have hs3 : cl_step Q i (W9 i) = ((cl_ext ((cl_ext (Q.1, Q.2.1) Q.2.2.1 (W9 i).1 (cl_r i (W9 i))).1, (cl_ext (Q.1, Q.2.1) Q.2.2.1 (W9 i).1 (cl_r i (W9 i))).2) Q.2.2.1 ((W9 i).1 + 1) (cl_f i (W9 i))).1, (cl_ext ((cl_ext (Q.1, Q.2.1) Q.2.2.1 (W9 i).1 (cl_r i (W9 i))).1, (cl_ext (Q.1, Q.2.1) Q.2.2.1 (W9 i).1 (cl_r i (W9 i))).2) Q.2.2.1 ((W9 i).1 + 1) (cl_f i (W9 i))).2, fu (fu Q.2.2.1 (W9 i).1 (some (cl_f i (W9 i)))) ((W9 i).1 + 1) (some (cl_r i (W9 i))), su Q.2.2.2 i (-1)) := by rw [cl_step, hsg]
          have hP : va_P (dC, dI) vwCl [(aX, .inr (10, [.ref (nx 0), .ref (nx 1), .ref (nx 2), .ref (nx 3), .ref (nx 4), .ref (nx 5), .ref (nx 6), .int (nI (i + 1)), .int 0, .int x9, .int x10])), ((nx 0), .inl (cI, 24, .inl (ow_nI ((cl_run W9 (S, fun _ => none, fun _ => none, G) (i + 1)).1).1))), ((nx 1), .inl (cI, 24, .inl (ow_nI ((cl_run W9 (S, fun _ => none, fun _ => none, G) (i + 1)).1).2))), ((nx 2), .inl (cI, 12, .inl ((cl_run W9 (S, fun _ => none, fun _ => none, G) (i + 1)).2.2.2))), ((nx 3), .inl (cI, 24, .inl f2)), ((nx 6), .inl (cI, 24, .inl (su (su h ((W9 i).1) (nI (cl_f i (W9 i)))) ((W9 i).1 + 1) (nI (cl_r i (W9 i)))))), (aL, .inl (cB, nL, .inl Lt))] H := by rw [hstp, hs3]; exact hP
          have hD : va_D A [(aX, .inr (10, [.ref (nx 0), .ref (nx 1), .ref (nx 2), .ref (nx 3), .ref (nx 4), .ref (nx 5), .ref (nx 6), .int (nI (i + 1)), .int 0, .int x9, .int x10])), ((nx 0), .inl (cI, 24, .inl (ow_nI ((cl_run W9 (S, fun _ => none, fun _ => none, G) (i + 1)).1).1))), ((nx 1), .inl (cI, 24, .inl (ow_nI ((cl_run W9 (S, fun _ => none, fun _ => none, G) (i + 1)).1).2))), ((nx 2), .inl (cI, 12, .inl ((cl_run W9 (S, fun _ => none, fun _ => none, G) (i + 1)).2.2.2))), ((nx 3), .inl (cI, 24, .inl f2)), ((nx 6), .inl (cI, 24, .inl (su (su h ((W9 i).1) (nI (cl_f i (W9 i)))) ((W9 i).1 + 1) (nI (cl_r i (W9 i)))))), (aL, .inl (cB, nL, .inl Lt))] := by rw [hstp, hs3]; exact hD
          refine lv_iinc (v := nI (i + 1)) (lv' := [(7, .int (nI (i + 1))), (11, .int (nI (cl_f i (W9 i)))), (10, .int (nI (cl_r i (W9 i)))), (0, .ref aX), (1, .ref aL), (2, .int (nI at0)), (3, .int (nI cnt)), (4, .int (nI ns)), (5, .ref (nx 3)), (6, .ref (nx 6)), (8, .int (ltr (W9 i))), (9, .int (nI (W9 i).1))]) hx hb dgX7_close_162 hl (k := 9) rfl (nI_1 i) (by decide) rfl (fun ls hl => ?_)
          refine lv_goto (tgt := 37) hx hb dgX7_close_165 (by decide) ?_
          refine ih (i + 1) f2 (su (su h ((W9 i).1) (nI (cl_f i (W9 i)))) ((W9 i).1 + 1) (nI (cl_r i (W9 i)))) (by omega) ?_ ?_ ?_ ?_ ?_ H locs ls hP hD hS (lv_sub hl [3, 4, 5, 6, 7, 8, 9, 0] rfl)
          · rw [hstp, hs3]; exact hf2
          · rw [hstp, hs3]; exact hh2
          · rw [hstp, hs3]; exact of2
          · rw [hstp, hs3]; exact o24_fu (o24_fu oh hf24) hr24
          · rw [hstp]; exact cl_step_fl hfl i (W9 i)
        | true =>
          refine lv_iload hx hb dgX7_close_141 (lv_at hl 10 rfl) ?_
          refine lv_if_le (tgt := 150) hx hb dgX7_close_143 (by decide) (fun c9 => absurd c9 ((fun h9 => by rw [(ltr_le (by omega)).mp h9] at hup; cases hup))) (fun _ => ?_)
          refine lv_iconst (v := 1) hx hb dgX7_close_146 (by decide) ?_
          refine lv_goto (tgt := 151) hx hb dgX7_close_147 (by decide) ?_
          refine ow_iastF (j := i) (x := 1) hx hb hK hP hD hS 3 0 rfl rfl (by omega) (by decide) dgX7_close_151 (fun H locs hP hD hS => ?_)
          have hP : va_P (dC, dI) vwCl [(aX, .inr (10, [.ref (nx 0), .ref (nx 1), .ref (nx 2), .ref (nx 3), .ref (nx 4), .ref (nx 5), .ref (nx 6), .int (nI i), .int 0, .int x9, .int x10])), ((nx 0), .inl (cI, 24, .inl (ow_nI ((cl_ext ((cl_ext (Q.1, Q.2.1) Q.2.2.1 (W9 i).1 (cl_r i (W9 i))).1, (cl_ext (Q.1, Q.2.1) Q.2.2.1 (W9 i).1 (cl_r i (W9 i))).2) Q.2.2.1 ((W9 i).1 + 1) (cl_f i (W9 i))).1).1))), ((nx 1), .inl (cI, 24, .inl (ow_nI ((cl_ext ((cl_ext (Q.1, Q.2.1) Q.2.2.1 (W9 i).1 (cl_r i (W9 i))).1, (cl_ext (Q.1, Q.2.1) Q.2.2.1 (W9 i).1 (cl_r i (W9 i))).2) Q.2.2.1 ((W9 i).1 + 1) (cl_f i (W9 i))).1).2))), ((nx 2), .inl (cI, 12, .inl (su Q.2.2.2 i 1))), ((nx 3), .inl (cI, 24, .inl f2)), ((nx 6), .inl (cI, 24, .inl (su (su h ((W9 i).1) (nI (cl_f i (W9 i)))) ((W9 i).1 + 1) (nI (cl_r i (W9 i)))))), (aL, .inl (cB, nL, .inl Lt))] H := hP
          have hD : va_D A [(aX, .inr (10, [.ref (nx 0), .ref (nx 1), .ref (nx 2), .ref (nx 3), .ref (nx 4), .ref (nx 5), .ref (nx 6), .int (nI i), .int 0, .int x9, .int x10])), ((nx 0), .inl (cI, 24, .inl (ow_nI ((cl_ext ((cl_ext (Q.1, Q.2.1) Q.2.2.1 (W9 i).1 (cl_r i (W9 i))).1, (cl_ext (Q.1, Q.2.1) Q.2.2.1 (W9 i).1 (cl_r i (W9 i))).2) Q.2.2.1 ((W9 i).1 + 1) (cl_f i (W9 i))).1).1))), ((nx 1), .inl (cI, 24, .inl (ow_nI ((cl_ext ((cl_ext (Q.1, Q.2.1) Q.2.2.1 (W9 i).1 (cl_r i (W9 i))).1, (cl_ext (Q.1, Q.2.1) Q.2.2.1 (W9 i).1 (cl_r i (W9 i))).2) Q.2.2.1 ((W9 i).1 + 1) (cl_f i (W9 i))).1).2))), ((nx 2), .inl (cI, 12, .inl (su Q.2.2.2 i 1))), ((nx 3), .inl (cI, 24, .inl f2)), ((nx 6), .inl (cI, 24, .inl (su (su h ((W9 i).1) (nI (cl_f i (W9 i)))) ((W9 i).1 + 1) (nI (cl_r i (W9 i)))))), (aL, .inl (cB, nL, .inl Lt))] := hD
          refine lv_aload_n hx hb dgX7_close_152 rfl (lv_at hl 2 rfl) ?_
          refine lv_dup hx hb dgX7_close_153 rfl ?_
          refine va_get (D := (dC, dI)) (ci := 10) (v := .int (nI i)) (C := RX7) (T := TX7) (N := 11) hx hb hts (fun _ h => List.mem_cons_of_mem _ (List.mem_append_left _ (List.mem_append_right _ h))) hown hK hP 0 rfl rfl 7 (by decide) (hts (.fieldLink RX7 39 "KnotHouse$Net" "crossings" "I") (by decide +kernel)) (fun _ h9 => h9) rfl dgX7_close_154 ?_
          refine lv_iconst (v := 1) hx hb dgX7_close_157 (by decide) ?_
          refine lv_iadd hx hb dgX7_close_158 ?_
          refine ow_topi (y := nI (i + 1)) (nI_1 (i)) ?_
          refine va_put (D := (dC, dI)) (ci := 10) (v := .int (nI (i + 1))) (ty := .int) (C := RX7) (T := TX7) (N := 11) hx hb hts (fun _ h => List.mem_cons_of_mem _ (List.mem_append_left _ (List.mem_append_right _ h))) tyX7 tyX7_ok nmX7 hown hK hP hD hS 0 rfl rfl 7 (by decide) (hts (.fieldLink RX7 39 "KnotHouse$Net" "crossings" "I") (by decide +kernel)) (fun _ h9 => h9) rfl (by decide +kernel) rfl rfl (Nat.le_of_ble_eq_true rfl) dgX7_close_159 (fun H locs hP hD hS => ?_)
          have hP : va_P (dC, dI) vwCl [(aX, .inr (10, [.ref (nx 0), .ref (nx 1), .ref (nx 2), .ref (nx 3), .ref (nx 4), .ref (nx 5), .ref (nx 6), .int (nI (i + 1)), .int 0, .int x9, .int x10])), ((nx 0), .inl (cI, 24, .inl (ow_nI ((cl_ext ((cl_ext (Q.1, Q.2.1) Q.2.2.1 (W9 i).1 (cl_r i (W9 i))).1, (cl_ext (Q.1, Q.2.1) Q.2.2.1 (W9 i).1 (cl_r i (W9 i))).2) Q.2.2.1 ((W9 i).1 + 1) (cl_f i (W9 i))).1).1))), ((nx 1), .inl (cI, 24, .inl (ow_nI ((cl_ext ((cl_ext (Q.1, Q.2.1) Q.2.2.1 (W9 i).1 (cl_r i (W9 i))).1, (cl_ext (Q.1, Q.2.1) Q.2.2.1 (W9 i).1 (cl_r i (W9 i))).2) Q.2.2.1 ((W9 i).1 + 1) (cl_f i (W9 i))).1).2))), ((nx 2), .inl (cI, 12, .inl (su Q.2.2.2 i 1))), ((nx 3), .inl (cI, 24, .inl f2)), ((nx 6), .inl (cI, 24, .inl (su (su h ((W9 i).1) (nI (cl_f i (W9 i)))) ((W9 i).1 + 1) (nI (cl_r i (W9 i)))))), (aL, .inl (cB, nL, .inl Lt))] H := hP
          have hD : va_D A [(aX, .inr (10, [.ref (nx 0), .ref (nx 1), .ref (nx 2), .ref (nx 3), .ref (nx 4), .ref (nx 5), .ref (nx 6), .int (nI (i + 1)), .int 0, .int x9, .int x10])), ((nx 0), .inl (cI, 24, .inl (ow_nI ((cl_ext ((cl_ext (Q.1, Q.2.1) Q.2.2.1 (W9 i).1 (cl_r i (W9 i))).1, (cl_ext (Q.1, Q.2.1) Q.2.2.1 (W9 i).1 (cl_r i (W9 i))).2) Q.2.2.1 ((W9 i).1 + 1) (cl_f i (W9 i))).1).1))), ((nx 1), .inl (cI, 24, .inl (ow_nI ((cl_ext ((cl_ext (Q.1, Q.2.1) Q.2.2.1 (W9 i).1 (cl_r i (W9 i))).1, (cl_ext (Q.1, Q.2.1) Q.2.2.1 (W9 i).1 (cl_r i (W9 i))).2) Q.2.2.1 ((W9 i).1 + 1) (cl_f i (W9 i))).1).2))), ((nx 2), .inl (cI, 12, .inl (su Q.2.2.2 i 1))), ((nx 3), .inl (cI, 24, .inl f2)), ((nx 6), .inl (cI, 24, .inl (su (su h ((W9 i).1) (nI (cl_f i (W9 i)))) ((W9 i).1 + 1) (nI (cl_r i (W9 i)))))), (aL, .inl (cB, nL, .inl Lt))] := hD
          have hsg : (if (W9 i).2 = true then (1 : Int32) else -1) = 1 := if_pos hup
          have hs3 : cl_step Q i (W9 i) = ((cl_ext ((cl_ext (Q.1, Q.2.1) Q.2.2.1 (W9 i).1 (cl_r i (W9 i))).1, (cl_ext (Q.1, Q.2.1) Q.2.2.1 (W9 i).1 (cl_r i (W9 i))).2) Q.2.2.1 ((W9 i).1 + 1) (cl_f i (W9 i))).1, (cl_ext ((cl_ext (Q.1, Q.2.1) Q.2.2.1 (W9 i).1 (cl_r i (W9 i))).1, (cl_ext (Q.1, Q.2.1) Q.2.2.1 (W9 i).1 (cl_r i (W9 i))).2) Q.2.2.1 ((W9 i).1 + 1) (cl_f i (W9 i))).2, fu (fu Q.2.2.1 (W9 i).1 (some (cl_f i (W9 i)))) ((W9 i).1 + 1) (some (cl_r i (W9 i))), su Q.2.2.2 i 1) := by rw [cl_step, hsg]
          have hP : va_P (dC, dI) vwCl [(aX, .inr (10, [.ref (nx 0), .ref (nx 1), .ref (nx 2), .ref (nx 3), .ref (nx 4), .ref (nx 5), .ref (nx 6), .int (nI (i + 1)), .int 0, .int x9, .int x10])), ((nx 0), .inl (cI, 24, .inl (ow_nI ((cl_run W9 (S, fun _ => none, fun _ => none, G) (i + 1)).1).1))), ((nx 1), .inl (cI, 24, .inl (ow_nI ((cl_run W9 (S, fun _ => none, fun _ => none, G) (i + 1)).1).2))), ((nx 2), .inl (cI, 12, .inl ((cl_run W9 (S, fun _ => none, fun _ => none, G) (i + 1)).2.2.2))), ((nx 3), .inl (cI, 24, .inl f2)), ((nx 6), .inl (cI, 24, .inl (su (su h ((W9 i).1) (nI (cl_f i (W9 i)))) ((W9 i).1 + 1) (nI (cl_r i (W9 i)))))), (aL, .inl (cB, nL, .inl Lt))] H := by rw [hstp, hs3]; exact hP
          have hD : va_D A [(aX, .inr (10, [.ref (nx 0), .ref (nx 1), .ref (nx 2), .ref (nx 3), .ref (nx 4), .ref (nx 5), .ref (nx 6), .int (nI (i + 1)), .int 0, .int x9, .int x10])), ((nx 0), .inl (cI, 24, .inl (ow_nI ((cl_run W9 (S, fun _ => none, fun _ => none, G) (i + 1)).1).1))), ((nx 1), .inl (cI, 24, .inl (ow_nI ((cl_run W9 (S, fun _ => none, fun _ => none, G) (i + 1)).1).2))), ((nx 2), .inl (cI, 12, .inl ((cl_run W9 (S, fun _ => none, fun _ => none, G) (i + 1)).2.2.2))), ((nx 3), .inl (cI, 24, .inl f2)), ((nx 6), .inl (cI, 24, .inl (su (su h ((W9 i).1) (nI (cl_f i (W9 i)))) ((W9 i).1 + 1) (nI (cl_r i (W9 i)))))), (aL, .inl (cB, nL, .inl Lt))] := by rw [hstp, hs3]; exact hD
          refine lv_iinc (v := nI (i + 1)) (lv' := [(7, .int (nI (i + 1))), (11, .int (nI (cl_f i (W9 i)))), (10, .int (nI (cl_r i (W9 i)))), (0, .ref aX), (1, .ref aL), (2, .int (nI at0)), (3, .int (nI cnt)), (4, .int (nI ns)), (5, .ref (nx 3)), (6, .ref (nx 6)), (8, .int (ltr (W9 i))), (9, .int (nI (W9 i).1))]) hx hb dgX7_close_162 hl (k := 9) rfl (nI_1 i) (by decide) rfl (fun ls hl => ?_)
          refine lv_goto (tgt := 37) hx hb dgX7_close_165 (by decide) ?_
          refine ih (i + 1) f2 (su (su h ((W9 i).1) (nI (cl_f i (W9 i)))) ((W9 i).1 + 1) (nI (cl_r i (W9 i)))) (by omega) ?_ ?_ ?_ ?_ ?_ H locs ls hP hD hS (lv_sub hl [3, 4, 5, 6, 7, 8, 9, 0] rfl)
          · rw [hstp, hs3]; exact hf2
          · rw [hstp, hs3]; exact hh2
          · rw [hstp, hs3]; exact of2
          · rw [hstp, hs3]; exact o24_fu (o24_fu oh hf24) hr24
          · rw [hstp]; exact cl_step_fl hfl i (W9 i)
      cases hup : (W9 i).2 with
      | false =>
        refine lv_iload hx hb dgX7_close_67 (lv_at hl 1 rfl) ?_
        refine lv_if_le (tgt := 79) hx hb dgX7_close_69 (by decide) (fun _ => ?_) (fun c9 => absurd ((ltr_le (by omega)).mpr hup) c9)
        refine lv_iconst (v := 2) hx hb dgX7_close_79 (by decide) ?_
        refine lv_iload hx hb dgX7_close_80 (lv_at hl 9 rfl) ?_
        refine lv_imul hx hb dgX7_close_82 ?_
        refine ow_topi (y := nI (2 * i)) (pk_mul 2 i) ?_
        refine lv_iconst (v := 1) hx hb dgX7_close_83 (by decide) ?_
        refine lv_iadd hx hb dgX7_close_84 ?_
        refine ow_topi (y := nI (2 * i + 1)) (nI_1 (2 * i)) ?_
        refine ow_topi (y := nI (cl_r i (W9 i))) (by unfold cl_r; rw [hup]; rfl) ?_
        exact K85 H locs ls hP hD hS (lv_sub hl [2, 3, 4, 5, 6, 7, 8, 9, 1, 0] rfl)
      | true =>
        refine lv_iload hx hb dgX7_close_67 (lv_at hl 1 rfl) ?_
        refine lv_if_le (tgt := 79) hx hb dgX7_close_69 (by decide) (fun c9 => absurd c9 ((fun h9 => by rw [(ltr_le (by omega)).mp h9] at hup; cases hup))) (fun _ => ?_)
        refine lv_iconst (v := 2) hx hb dgX7_close_72 (by decide) ?_
        refine lv_iload hx hb dgX7_close_73 (lv_at hl 9 rfl) ?_
        refine lv_imul hx hb dgX7_close_75 ?_
        refine ow_topi (y := nI (2 * i)) (pk_mul 2 i) ?_
        refine lv_goto (tgt := 85) hx hb dgX7_close_76 (by decide) ?_
        refine ow_topi (y := nI (cl_r i (W9 i))) (by unfold cl_r; rw [hup]; rfl) ?_
        exact K85 H locs ls hP hD hS (lv_sub hl [2, 3, 4, 5, 6, 7, 8, 9, 1, 0] rfl)
  refine lv_aload_n hx hb dgX7_close_0 rfl (lv_at hl 0 rfl) ?_
  refine va_get (D := (dC, dI)) (ci := 10) (v := .ref (nx 3)) (C := RX7) (T := TX7) (N := 11) hx hb hts (fun _ h => List.mem_cons_of_mem _ (List.mem_append_left _ (List.mem_append_right _ h))) hown hK hP 0 rfl rfl 3 (by decide) (hts (.fieldLink RX7 21 "KnotHouse$Net" "order" "[I") (by decide +kernel)) (fun _ h9 => h9) rfl dgX7_close_1 ?_
  refine lv_astore (lv' := [(5, .ref (nx 3)), (0, .ref aX), (1, .ref aL), (2, .int (nI at0)), (3, .int (nI cnt)), (4, .int (nI ns))]) hx hb dgX7_close_4 hl (by decide) rfl (fun ls hl => ?_)
  refine lv_aload_n hx hb dgX7_close_6 rfl (lv_at hl 1 rfl) ?_
  refine va_get (D := (dC, dI)) (ci := 10) (v := .ref (nx 6)) (C := RX7) (T := TX7) (N := 11) hx hb hts (fun _ h => List.mem_cons_of_mem _ (List.mem_append_left _ (List.mem_append_right _ h))) hown hK hP 0 rfl rfl 6 (by decide) (hts (.fieldLink RX7 30 "KnotHouse$Net" "queue" "[I") (by decide +kernel)) (fun _ h9 => h9) rfl dgX7_close_7 ?_
  refine lv_astore (lv' := [(6, .ref (nx 6)), (5, .ref (nx 3)), (0, .ref aX), (1, .ref aL), (2, .int (nI at0)), (3, .int (nI cnt)), (4, .int (nI ns))]) hx hb dgX7_close_10 hl (by decide) rfl (fun ls hl => ?_)
  refine lv_aload hx hb dgX7_close_12 (lv_at hl 1 rfl) ?_
  refine lv_iconst (v := 0) hx hb dgX7_close_14 (by decide) ?_
  refine ow_topi (y := nI 0) (by decide) ?_
  refine lv_iload hx hb dgX7_close_15 (lv_at hl 6 rfl) ?_
  refine lv_iconst (v := (-1)) hx hb dgX7_close_17 (by decide) ?_
  have hPc := hP.sub (ws' := [((nx 3), .inl (cI, 24, .inl O))]) [4] rfl
  have hDc := hD.sub (ws' := [((nx 3), .inl (cI, 24, .inl O))]) [4] (by decide) rfl
  have hFc := va_free (wc := [((nx 3), .inl (cI, 24, .inl O))]) hD hS hA [4] rfl
  refine va_callv (va_runS (As := [.ref (nx 3), .int (nI 0), .int (nI ns), .int (-1)]) (rest := []) ⟨hx, hb, hml, hown, hts⟩ (kg_J7_fill_fda19 l dC dI cI cB cJ cZ (nx 3) 24 0 ns (by decide) (by omega) (by omega) O (-1) H.size) (va_cwS 4 hts gg_X7_close_0 rfl rfl rfl (by decide +kernel) ⟨(Nat.le_of_ble_eq_true rfl), (Nat.le_of_ble_eq_true rfl)⟩) ⟨fun a U g mk q => by obtain ⟨q0, q1, qP, qK, qD⟩ := q; exact ⟨q0, q1, qP, va_K.moved (u := U) (U := U.calling g mk a) (Vm.Alike.refl U.vm) qK, qD⟩, fun U hU hW => ⟨rfl, by rw [hU], by rw [hU]; exact hPc, va_K.moved hW.alike hK, hDc.weaken (fun _ _ _ _ => trivial)⟩⟩ rfl rfl hl.1 rfl (lv_room (Nat.le_of_ble_eq_true rfl)) dgX7_close_18 ⟨(Nat.le_of_ble_eq_true rfl), (Nat.le_of_ble_eq_true rfl)⟩) hS (fun q _ h => hFc q h) hFc (fun u9 t H1 locs ht hvm hw9 hB hz1 hk1 hS => ?_)
  obtain ⟨hP1, hD1⟩ := hB
  rw [ht] at hP1
  obtain ⟨hP, hD⟩ := va_join (wr := [(aX, .inr (10, [.ref (nx 0), .ref (nx 1), .ref (nx 2), .ref (nx 3), .ref (nx 4), .ref (nx 5), .ref (nx 6), .int x7, .int x8, .int x9, .int x10])), ((nx 0), .inl (cI, 24, .inl (ow_nI S.1))), ((nx 1), .inl (cI, 24, .inl (ow_nI S.2))), ((nx 2), .inl (cI, 12, .inl G)), ((nx 6), .inl (cI, 24, .inl Z)), (aL, .inl (cB, nL, .inl Lt))]) (w1 := [((nx 3), .inl (cI, 24, .inl (np_fill O 0 ns (-1))))]) hP hD [4] [0, 1, 2, 3, 5, 6] rfl rfl (by decide) (by decide) hk1 hFc hP1 hD1
  generalize H1 = H at hP hS ⊢
  have hP : va_P (dC, dI) vwCl [(aX, .inr (10, [.ref (nx 0), .ref (nx 1), .ref (nx 2), .ref (nx 3), .ref (nx 4), .ref (nx 5), .ref (nx 6), .int x7, .int x8, .int x9, .int x10])), ((nx 0), .inl (cI, 24, .inl (ow_nI S.1))), ((nx 1), .inl (cI, 24, .inl (ow_nI S.2))), ((nx 2), .inl (cI, 12, .inl G)), ((nx 6), .inl (cI, 24, .inl Z)), (aL, .inl (cB, nL, .inl Lt)), ((nx 3), .inl (cI, 24, .inl (np_fill O 0 ns (-1))))] H := hP
  have hD : va_D A [(aX, .inr (10, [.ref (nx 0), .ref (nx 1), .ref (nx 2), .ref (nx 3), .ref (nx 4), .ref (nx 5), .ref (nx 6), .int x7, .int x8, .int x9, .int x10])), ((nx 0), .inl (cI, 24, .inl (ow_nI S.1))), ((nx 1), .inl (cI, 24, .inl (ow_nI S.2))), ((nx 2), .inl (cI, 12, .inl G)), ((nx 6), .inl (cI, 24, .inl Z)), (aL, .inl (cB, nL, .inl Lt)), ((nx 3), .inl (cI, 24, .inl (np_fill O 0 ns (-1))))] := hD
  have hP := hP.sub (ws' := [(aX, .inr (10, [.ref (nx 0), .ref (nx 1), .ref (nx 2), .ref (nx 3), .ref (nx 4), .ref (nx 5), .ref (nx 6), .int x7, .int x8, .int x9, .int x10])), ((nx 0), .inl (cI, 24, .inl (ow_nI S.1))), ((nx 1), .inl (cI, 24, .inl (ow_nI S.2))), ((nx 2), .inl (cI, 12, .inl G)), ((nx 3), .inl (cI, 24, .inl (np_fill O 0 ns (-1)))), ((nx 6), .inl (cI, 24, .inl Z)), (aL, .inl (cB, nL, .inl Lt))]) [0, 1, 2, 3, 6, 4, 5] rfl
  have hD := hD.sub (ws' := [(aX, .inr (10, [.ref (nx 0), .ref (nx 1), .ref (nx 2), .ref (nx 3), .ref (nx 4), .ref (nx 5), .ref (nx 6), .int x7, .int x8, .int x9, .int x10])), ((nx 0), .inl (cI, 24, .inl (ow_nI S.1))), ((nx 1), .inl (cI, 24, .inl (ow_nI S.2))), ((nx 2), .inl (cI, 12, .inl G)), ((nx 3), .inl (cI, 24, .inl (np_fill O 0 ns (-1)))), ((nx 6), .inl (cI, 24, .inl Z)), (aL, .inl (cB, nL, .inl Lt))]) [0, 1, 2, 3, 6, 4, 5] (by decide) rfl
  refine lv_aload hx hb dgX7_close_21 (lv_at hl 0 rfl) ?_
  refine lv_iconst (v := 0) hx hb dgX7_close_23 (by decide) ?_
  refine ow_topi (y := nI 0) (by decide) ?_
  refine lv_iload hx hb dgX7_close_24 (lv_at hl 6 rfl) ?_
  refine lv_iconst (v := (-1)) hx hb dgX7_close_26 (by decide) ?_
  have hPc := hP.sub (ws' := [((nx 6), .inl (cI, 24, .inl Z))]) [5] rfl
  have hDc := hD.sub (ws' := [((nx 6), .inl (cI, 24, .inl Z))]) [5] (by decide) rfl
  have hFc := va_free (wc := [((nx 6), .inl (cI, 24, .inl Z))]) hD hS hA [5] rfl
  refine va_callv (va_runS (As := [.ref (nx 6), .int (nI 0), .int (nI ns), .int (-1)]) (rest := []) ⟨hx, hb, hml, hown, hts⟩ (kg_J7_fill_fda19 l dC dI cI cB cJ cZ (nx 6) 24 0 ns (by decide) (by omega) (by omega) Z (-1) H.size) (va_cwS 4 hts gg_X7_close_0 rfl rfl rfl (by decide +kernel) ⟨(Nat.le_of_ble_eq_true rfl), (Nat.le_of_ble_eq_true rfl)⟩) ⟨fun a U g mk q => by obtain ⟨q0, q1, qP, qK, qD⟩ := q; exact ⟨q0, q1, qP, va_K.moved (u := U) (U := U.calling g mk a) (Vm.Alike.refl U.vm) qK, qD⟩, fun U hU hW => ⟨rfl, by rw [hU], by rw [hU]; exact hPc, va_K.moved hW.alike hK, hDc.weaken (fun _ _ _ _ => trivial)⟩⟩ rfl rfl hl.1 rfl (lv_room (Nat.le_of_ble_eq_true rfl)) dgX7_close_27 ⟨(Nat.le_of_ble_eq_true rfl), (Nat.le_of_ble_eq_true rfl)⟩) hS (fun q _ h => hFc q h) hFc (fun u9 t H1 locs ht hvm hw9 hB hz1 hk1 hS => ?_)
  obtain ⟨hP1, hD1⟩ := hB
  rw [ht] at hP1
  obtain ⟨hP, hD⟩ := va_join (wr := [(aX, .inr (10, [.ref (nx 0), .ref (nx 1), .ref (nx 2), .ref (nx 3), .ref (nx 4), .ref (nx 5), .ref (nx 6), .int x7, .int x8, .int x9, .int x10])), ((nx 0), .inl (cI, 24, .inl (ow_nI S.1))), ((nx 1), .inl (cI, 24, .inl (ow_nI S.2))), ((nx 2), .inl (cI, 12, .inl G)), ((nx 3), .inl (cI, 24, .inl (np_fill O 0 ns (-1)))), (aL, .inl (cB, nL, .inl Lt))]) (w1 := [((nx 6), .inl (cI, 24, .inl (np_fill Z 0 ns (-1))))]) hP hD [5] [0, 1, 2, 3, 4, 6] rfl rfl (by decide) (by decide) hk1 hFc hP1 hD1
  generalize H1 = H at hP hS ⊢
  have hP : va_P (dC, dI) vwCl [(aX, .inr (10, [.ref (nx 0), .ref (nx 1), .ref (nx 2), .ref (nx 3), .ref (nx 4), .ref (nx 5), .ref (nx 6), .int x7, .int x8, .int x9, .int x10])), ((nx 0), .inl (cI, 24, .inl (ow_nI S.1))), ((nx 1), .inl (cI, 24, .inl (ow_nI S.2))), ((nx 2), .inl (cI, 12, .inl G)), ((nx 3), .inl (cI, 24, .inl (np_fill O 0 ns (-1)))), (aL, .inl (cB, nL, .inl Lt)), ((nx 6), .inl (cI, 24, .inl (np_fill Z 0 ns (-1))))] H := hP
  have hD : va_D A [(aX, .inr (10, [.ref (nx 0), .ref (nx 1), .ref (nx 2), .ref (nx 3), .ref (nx 4), .ref (nx 5), .ref (nx 6), .int x7, .int x8, .int x9, .int x10])), ((nx 0), .inl (cI, 24, .inl (ow_nI S.1))), ((nx 1), .inl (cI, 24, .inl (ow_nI S.2))), ((nx 2), .inl (cI, 12, .inl G)), ((nx 3), .inl (cI, 24, .inl (np_fill O 0 ns (-1)))), (aL, .inl (cB, nL, .inl Lt)), ((nx 6), .inl (cI, 24, .inl (np_fill Z 0 ns (-1))))] := hD
  have hP := hP.sub (ws' := [(aX, .inr (10, [.ref (nx 0), .ref (nx 1), .ref (nx 2), .ref (nx 3), .ref (nx 4), .ref (nx 5), .ref (nx 6), .int x7, .int x8, .int x9, .int x10])), ((nx 0), .inl (cI, 24, .inl (ow_nI S.1))), ((nx 1), .inl (cI, 24, .inl (ow_nI S.2))), ((nx 2), .inl (cI, 12, .inl G)), ((nx 3), .inl (cI, 24, .inl (np_fill O 0 ns (-1)))), ((nx 6), .inl (cI, 24, .inl (np_fill Z 0 ns (-1)))), (aL, .inl (cB, nL, .inl Lt))]) [0, 1, 2, 3, 4, 6, 5] rfl
  have hD := hD.sub (ws' := [(aX, .inr (10, [.ref (nx 0), .ref (nx 1), .ref (nx 2), .ref (nx 3), .ref (nx 4), .ref (nx 5), .ref (nx 6), .int x7, .int x8, .int x9, .int x10])), ((nx 0), .inl (cI, 24, .inl (ow_nI S.1))), ((nx 1), .inl (cI, 24, .inl (ow_nI S.2))), ((nx 2), .inl (cI, 12, .inl G)), ((nx 3), .inl (cI, 24, .inl (np_fill O 0 ns (-1)))), ((nx 6), .inl (cI, 24, .inl (np_fill Z 0 ns (-1)))), (aL, .inl (cB, nL, .inl Lt))]) [0, 1, 2, 3, 4, 6, 5] (by decide) rfl
  refine lv_aload_n hx hb dgX7_close_30 rfl (lv_at hl 2 rfl) ?_
  have hPc := hP.sub (ws' := [(aX, .inr (10, [.ref (nx 0), .ref (nx 1), .ref (nx 2), .ref (nx 3), .ref (nx 4), .ref (nx 5), .ref (nx 6), .int x7, .int x8, .int x9, .int x10]))]) [0] rfl
  have hDc := hD.sub (ws' := [(aX, .inr (10, [.ref (nx 0), .ref (nx 1), .ref (nx 2), .ref (nx 3), .ref (nx 4), .ref (nx 5), .ref (nx 6), .int x7, .int x8, .int x9, .int x10]))]) [0] (by decide) rfl
  have hFc := va_free (wc := [(aX, .inr (10, [.ref (nx 0), .ref (nx 1), .ref (nx 2), .ref (nx 3), .ref (nx 4), .ref (nx 5), .ref (nx 6), .int x7, .int x8, .int x9, .int x10]))]) hD hS hA [0] rfl
  refine va_callv (va_runV (As := []) (rest := []) ⟨hx, hb, hml, hown, hts⟩ (kg_X7_empty l dC dI cI cB cJ cZ aX nx x7 x8 x9 x10 H.size) (cwV 0 hts gg_X7_close_1 rfl rfl rfl (by decide +kernel) ⟨(Nat.le_of_ble_eq_true rfl), (Nat.le_of_ble_eq_true rfl)⟩) ⟨fun a U g mk q => by obtain ⟨q0, q1, qP, qK, qD⟩ := q; exact ⟨q0, q1, qP, va_K.moved (u := U) (U := U.calling g mk a) (Vm.Alike.refl U.vm) qK, qD⟩, va_recv hK hPc (ci := 10) (q0 := 0) rfl rfl, fun U hU hW => ⟨rfl, by rw [hU], by rw [hU]; exact hPc, va_K.moved hW.alike hK, hDc.weaken (fun _ _ _ _ => trivial)⟩⟩ rfl rfl hl.1 rfl (lv_room (Nat.le_of_ble_eq_true rfl)) dgX7_close_31 ⟨(Nat.le_of_ble_eq_true rfl), (Nat.le_of_ble_eq_true rfl)⟩) hS (fun q _ h => hFc q h) hFc (fun u9 t H1 locs ht hvm hw hB hz1 hk1 hS => ?_)
  obtain ⟨hP1, hD1⟩ := hB
  rw [ht] at hP1
  obtain ⟨hP, hD⟩ := va_join (wr := [((nx 0), .inl (cI, 24, .inl (ow_nI S.1))), ((nx 1), .inl (cI, 24, .inl (ow_nI S.2))), ((nx 2), .inl (cI, 12, .inl G)), ((nx 3), .inl (cI, 24, .inl (np_fill O 0 ns (-1)))), ((nx 6), .inl (cI, 24, .inl (np_fill Z 0 ns (-1)))), (aL, .inl (cB, nL, .inl Lt))]) (w1 := [(aX, .inr (10, [.ref (nx 0), .ref (nx 1), .ref (nx 2), .ref (nx 3), .ref (nx 4), .ref (nx 5), .ref (nx 6), .int 0, .int 0, .int x9, .int x10]))]) hP hD [0] [1, 2, 3, 4, 5, 6] rfl rfl (by decide) (by decide) hk1 hFc hP1 hD1
  generalize H1 = H at hP hS ⊢
  have hP : va_P (dC, dI) vwCl [((nx 0), .inl (cI, 24, .inl (ow_nI S.1))), ((nx 1), .inl (cI, 24, .inl (ow_nI S.2))), ((nx 2), .inl (cI, 12, .inl G)), ((nx 3), .inl (cI, 24, .inl (np_fill O 0 ns (-1)))), ((nx 6), .inl (cI, 24, .inl (np_fill Z 0 ns (-1)))), (aL, .inl (cB, nL, .inl Lt)), (aX, .inr (10, [.ref (nx 0), .ref (nx 1), .ref (nx 2), .ref (nx 3), .ref (nx 4), .ref (nx 5), .ref (nx 6), .int 0, .int 0, .int x9, .int x10]))] H := hP
  have hD : va_D A [((nx 0), .inl (cI, 24, .inl (ow_nI S.1))), ((nx 1), .inl (cI, 24, .inl (ow_nI S.2))), ((nx 2), .inl (cI, 12, .inl G)), ((nx 3), .inl (cI, 24, .inl (np_fill O 0 ns (-1)))), ((nx 6), .inl (cI, 24, .inl (np_fill Z 0 ns (-1)))), (aL, .inl (cB, nL, .inl Lt)), (aX, .inr (10, [.ref (nx 0), .ref (nx 1), .ref (nx 2), .ref (nx 3), .ref (nx 4), .ref (nx 5), .ref (nx 6), .int 0, .int 0, .int x9, .int x10]))] := hD
  have hP := hP.sub (ws' := [(aX, .inr (10, [.ref (nx 0), .ref (nx 1), .ref (nx 2), .ref (nx 3), .ref (nx 4), .ref (nx 5), .ref (nx 6), .int 0, .int 0, .int x9, .int x10])), ((nx 0), .inl (cI, 24, .inl (ow_nI S.1))), ((nx 1), .inl (cI, 24, .inl (ow_nI S.2))), ((nx 2), .inl (cI, 12, .inl G)), ((nx 3), .inl (cI, 24, .inl (np_fill O 0 ns (-1)))), ((nx 6), .inl (cI, 24, .inl (np_fill Z 0 ns (-1)))), (aL, .inl (cB, nL, .inl Lt))]) [6, 0, 1, 2, 3, 4, 5] rfl
  have hD := hD.sub (ws' := [(aX, .inr (10, [.ref (nx 0), .ref (nx 1), .ref (nx 2), .ref (nx 3), .ref (nx 4), .ref (nx 5), .ref (nx 6), .int 0, .int 0, .int x9, .int x10])), ((nx 0), .inl (cI, 24, .inl (ow_nI S.1))), ((nx 1), .inl (cI, 24, .inl (ow_nI S.2))), ((nx 2), .inl (cI, 12, .inl G)), ((nx 3), .inl (cI, 24, .inl (np_fill O 0 ns (-1)))), ((nx 6), .inl (cI, 24, .inl (np_fill Z 0 ns (-1)))), (aL, .inl (cB, nL, .inl Lt))]) [6, 0, 1, 2, 3, 4, 5] (by decide) rfl
  refine lv_iconst (v := 0) hx hb dgX7_close_34 (by decide) ?_
  refine ow_topi (y := nI 0) (by decide) ?_
  refine lv_istore (lv' := [(7, .int (nI 0)), (6, .ref (nx 6)), (5, .ref (nx 3)), (0, .ref aX), (1, .ref aL), (2, .int (nI at0)), (3, .int (nI cnt)), (4, .int (nI ns))]) hx hb dgX7_close_35 hl (by decide) rfl (fun ls hl => ?_)
  exact L37 cnt 0 _ _ (by omega) (fun k hk => if_pos ⟨Nat.zero_le k, hk⟩) (fun k hk => if_pos ⟨Nat.zero_le k, hk⟩) (fun k x hx => by cases hx) (fun k x hx => by cases hx) (fun k hk => by cases hk) H locs ls hP hD hS (lv_sub hl [3, 4, 5, 6, 7, 2, 1, 0] rfl)
