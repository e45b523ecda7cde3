/-! a visit read from the tape: the place of a fault, the place behind it, the name -/
def rv_3 (tp : Nat → Int32) (n b : Nat) (nm : Int32) : Option Nat × Nat × Int32 := if b < n ∧ (tp b = 43 ∨ tp b = 45) then (none, b + 1, nm) else (some b, b, nm)
def rv_2 (tp : Nat → Int32) (n b : Nat) (nm : Int32) : Option Nat × Nat × Int32 := if b < n ∧ 48 ≤ tp b ∧ tp b ≤ 57 then rv_3 tp n (b + 1) (10 * nm + tp b - 48) else rv_3 tp n b nm
def rv_1 (tp : Nat → Int32) (n b : Nat) (nm : Int32) : Option Nat × Nat × Int32 := if b < n ∧ 49 ≤ tp b ∧ tp b ≤ 57 then rv_2 tp n (b + 1) (tp b - 48) else (some b, b, nm)
def rv_0 (tp : Nat → Int32) (n a : Nat) (nm : Int32) : Option Nat × Nat × Int32 := if tp a = 111 ∨ tp a = 117 then rv_1 tp n (a + 1) nm else (some a, a, nm)
theorem ow_dig {x : Int32} (h1 : 48 ≤ x) (h2 : x ≤ 57) : ∃ k : Nat, k ≤ 9 ∧ x = nI (48 + k) := by
  have a1 := Int32.le_iff_toInt_le.mp h1
  have a2 := Int32.le_iff_toInt_le.mp h2
  have b1 : (48 : Int32).toInt = 48 := by decide
  have b2 : (57 : Int32).toInt = 57 := by decide
  refine ⟨(x.toInt - 48).toNat, by omega, ?_⟩
  apply Int32.toInt_inj.mp
  rw [nI_toInt (by omega)]
  omega
theorem rv_3_ok {tp : Nat → Int32} {n b : Nat} {nm : Int32} (h : (rv_3 tp n b nm).1 = none) : (rv_3 tp n b nm).2 = (b + 1, nm) ∧ b < n := by
  unfold rv_3 at h ⊢
  split
  · rename_i q
    exact ⟨rfl, q.1⟩
  · rename_i q
    rw [if_neg q] at h
    cases h
theorem ow_dig1 {k : Nat} : nI (48 + k) - 48 = nI k := by
  rw [← nI_add, Int32.sub_eq_add_neg, Int32.add_comm (nI 48), Int32.add_assoc]
  exact Int32.add_zero _
theorem ow_dig2 {j k : Nat} : 10 * nI j + nI (48 + k) - 48 = nI (10 * j + k) := by
  rw [Int32.sub_eq_add_neg, Int32.add_assoc, ← Int32.sub_eq_add_neg, ow_dig1, show (10 : Int32) * nI j = nI (10 * j) from pk_mul 10 j, nI_add]
theorem rv_2_ok {tp : Nat → Int32} {n b j : Nat} (hj : 1 ≤ j ∧ j ≤ 9) (h : (rv_2 tp n b (nI j)).1 = none) : ∃ k, 1 ≤ k ∧ k < 100 ∧ (rv_2 tp n b (nI j)).2.2 = nI k ∧ b < (rv_2 tp n b (nI j)).2.1 ∧ (rv_2 tp n b (nI j)).2.1 ≤ n := by
  unfold rv_2 at h ⊢
  split
  · rename_i q
    rw [if_pos q] at h
    obtain ⟨k, hk, e⟩ := ow_dig q.2.1 q.2.2
    obtain ⟨h1, h2⟩ := rv_3_ok h
    rw [h1]
    refine ⟨10 * j + k, by omega, by omega, ?_, ?_, ?_⟩
    · rw [e]; exact ow_dig2
    · show b < b + 1 + 1
      omega
    · show b + 1 + 1 ≤ n
      omega
  · rename_i q
    rw [if_neg q] at h
    obtain ⟨h1, h2⟩ := rv_3_ok h
    rw [h1]
    exact ⟨j, hj.1, by omega, rfl, Nat.lt_succ_self b, h2⟩
theorem rv_0_ok {tp : Nat → Int32} {n a : Nat} {nm : Int32} (h : (rv_0 tp n a nm).1 = none) : ∃ k, 1 ≤ k ∧ k < 100 ∧ (rv_0 tp n a nm).2.2 = nI k ∧ a < (rv_0 tp n a nm).2.1 ∧ (rv_0 tp n a nm).2.1 ≤ n := by
  unfold rv_0 at h ⊢
  split
  · rename_i q
    rw [if_pos q] at h
    unfold rv_1 at h ⊢
    split
    · rename_i r
      rw [if_pos r] at h
      obtain ⟨k, hk, e⟩ := ow_dig (Int32.le_trans (by decide) r.2.1) r.2.2
      have hk1 : 1 ≤ k := by
        rcases Nat.eq_zero_or_pos k with z | z
        · rw [z] at e
          rw [e] at r
          exact absurd r.2.1 (by decide)
        · exact z
      rw [e, ow_dig1] at h ⊢
      obtain ⟨k2, h1, h2, h3, h4, h5⟩ := rv_2_ok (b := a + 1 + 1) ⟨hk1, hk⟩ h
      exact ⟨k2, h1, h2, h3, by omega, h5⟩
    · rename_i r
      rw [if_neg r] at h
      cases h
  · rename_i q
    rw [if_neg q] at h
    cases h
/-! a visit entered: crossings, crossings' names, signs, begins -/
abbrev ow_ET := Nat × (Nat → Int32) × (Nat → Int32) × (Nat → Int32)
def et_sg (tp : Nat → Int32) (a : Nat) : Int32 := if tp (a - 1) = 43 then 1 else -1
def et_x (Q : ow_ET) (k : Nat) : Nat := if Q.2.1 k = -1 then Q.1 else (Q.2.1 k).toNatClampNeg
def et_n (Q : ow_ET) (k : Nat) (sg : Int32) : ow_ET := if Q.2.1 k = -1 then (Q.1 + 1, su Q.2.1 k (nI Q.1), su Q.2.2.1 Q.1 sg, Q.2.2.2) else Q
def et_v (tp : Nat → Int32) (Q : ow_ET) (k b : Nat) : Nat := 2 * et_x Q k + (if tp b = 117 then 1 else 0)
def et_run (tp : Nat → Int32) (Q : ow_ET) (a k b : Nat) : Option Nat × ow_ET := if Q.2.1 k = -1 ∧ 12 ≤ Q.1 then (none, Q) else if Q.2.2.2 (et_v tp Q k b) = -1 ∧ (et_n Q k (et_sg tp a)).2.2.1 (et_x Q k) = et_sg tp a then (some (et_v tp Q k b), ((et_n Q k (et_sg tp a)).1, (et_n Q k (et_sg tp a)).2.1, (et_n Q k (et_sg tp a)).2.2.1, su Q.2.2.2 (et_v tp Q k b) (nI b))) else (none, et_n Q k (et_sg tp a))
def et_ok (Q : ow_ET) : Prop := Q.1 ≤ 12 ∧ ∀ k, k < 100 → Q.2.1 k = -1 ∨ ∃ x, x < Q.1 ∧ Q.2.1 k = nI x
theorem et_x_lt {Q : ow_ET} {k : Nat} (h : et_ok Q) (hk : k < 100) (hn : ¬ (Q.2.1 k = -1 ∧ 12 ≤ Q.1)) : et_x Q k < 12 := by
  unfold et_x
  split
  · rename_i e
    rcases Nat.lt_or_ge Q.1 12 with q | q
    · exact q
    · exact absurd ⟨e, q⟩ hn
  · rename_i e
    rcases h.2 k hk with q | ⟨x, hx, q⟩
    · exact absurd q e
    · have := h.1
      rw [q, nI_clamp (by omega)]
      omega
theorem et_n_ok {Q : ow_ET} {k : Nat} {sg : Int32} (h : et_ok Q) (hn : ¬ (Q.2.1 k = -1 ∧ 12 ≤ Q.1)) : et_ok (et_n Q k sg) := by
  unfold et_n
  split
  · rename_i e
    refine ⟨?_, fun j hj => ?_⟩
    · show Q.1 + 1 ≤ 12
      rcases Nat.lt_or_ge Q.1 12 with q | q
      · exact q
      · exact absurd ⟨e, q⟩ hn
    · show (if j = k then nI Q.1 else Q.2.1 j) = -1 ∨ ∃ x, x < Q.1 + 1 ∧ (if j = k then nI Q.1 else Q.2.1 j) = nI x
      by_cases e2 : j = k
      · rw [if_pos e2]; exact Or.inr ⟨Q.1, Nat.lt_succ_self _, rfl⟩
      · rw [if_neg e2]
        rcases h.2 j hj with q | ⟨x, hx, q⟩
        · exact Or.inl q
        · exact Or.inr ⟨x, Nat.lt_succ_of_lt hx, q⟩
  · exact h
theorem et_run_ok {tp : Nat → Int32} {Q : ow_ET} {a k b : Nat} (h : et_ok Q) (hk : k < 100) : et_ok (et_run tp Q a k b).2 ∧ ∀ v, (et_run tp Q a k b).1 = some v → v < 24 := by
  unfold et_run
  split
  · exact ⟨h, fun v hv => by cases hv⟩
  · rename_i hn
    have hx := et_x_lt h hk hn
    split
    · refine ⟨et_n_ok h hn, fun v hv => ?_⟩
      have e := Option.some.inj hv
      rw [← e]
      unfold et_v
      split <;> omega
    · exact ⟨et_n_ok h hn, fun v hv => by cases hv⟩
theorem dgX9_readVisit_0 : decode cX9_readVisit 0 = .ok (.aload_n 0, 1) := by decide +kernel
theorem dgX9_readVisit_1 : decode cX9_readVisit 1 = .ok (.getfield 9, 3) := by decide +kernel
theorem dgX9_readVisit_4 : decode cX9_readVisit 4 = .ok (.aload_n 0, 1) := by decide +kernel
theorem dgX9_readVisit_5 : decode cX9_readVisit 5 = .ok (.getfield 37, 3) := by decide +kernel
theorem dgX9_readVisit_8 : decode cX9_readVisit 8 = .ok (.baload, 1) := by decide +kernel
theorem dgX9_readVisit_9 : decode cX9_readVisit 9 = .ok (.bipush 111, 2) := by decide +kernel
theorem dgX9_readVisit_11 : decode cX9_readVisit 11 = .ok (.if_icmp .eq 22, 3) := by decide +kernel
theorem dgX9_readVisit_14 : decode cX9_readVisit 14 = .ok (.aload_n 0, 1) := by decide +kernel
theorem dgX9_readVisit_15 : decode cX9_readVisit 15 = .ok (.getfield 9, 3) := by decide +kernel
theorem dgX9_readVisit_18 : decode cX9_readVisit 18 = .ok (.aload_n 0, 1) := by decide +kernel
theorem dgX9_readVisit_19 : decode cX9_readVisit 19 = .ok (.getfield 37, 3) := by decide +kernel
theorem dgX9_readVisit_22 : decode cX9_readVisit 22 = .ok (.baload, 1) := by decide +kernel
theorem dgX9_readVisit_23 : decode cX9_readVisit 23 = .ok (.bipush 117, 2) := by decide +kernel
theorem dgX9_readVisit_25 : decode cX9_readVisit 25 = .ok (.if_icmp .eq 8, 3) := by decide +kernel
theorem dgX9_readVisit_28 : decode cX9_readVisit 28 = .ok (.aload_n 0, 1) := by decide +kernel
theorem dgX9_readVisit_29 : decode cX9_readVisit 29 = .ok (.getfield 37, 3) := by decide +kernel
theorem dgX9_readVisit_32 : decode cX9_readVisit 32 = .ok (.ireturn, 1) := by decide +kernel
theorem dgX9_readVisit_33 : decode cX9_readVisit 33 = .ok (.aload_n 0, 1) := by decide +kernel
theorem dgX9_readVisit_34 : decode cX9_readVisit 34 = .ok (.dup, 1) := by decide +kernel
theorem dgX9_readVisit_35 : decode cX9_readVisit 35 = .ok (.getfield 37, 3) := by decide +kernel
theorem dgX9_readVisit_38 : decode cX9_readVisit 38 = .ok (.iconst 1, 1) := by decide +kernel
theorem dgX9_readVisit_39 : decode cX9_readVisit 39 = .ok (.iadd, 1) := by decide +kernel
theorem dgX9_readVisit_40 : decode cX9_readVisit 40 = .ok (.putfield 37, 3) := by decide +kernel
theorem dgX9_readVisit_43 : decode cX9_readVisit 43 = .ok (.aload_n 0, 1) := by decide +kernel
theorem dgX9_readVisit_44 : decode cX9_readVisit 44 = .ok (.getfield 37, 3) := by decide +kernel
theorem dgX9_readVisit_47 : decode cX9_readVisit 47 = .ok (.aload_n 0, 1) := by decide +kernel
theorem dgX9_readVisit_48 : decode cX9_readVisit 48 = .ok (.getfield 22, 3) := by decide +kernel
theorem dgX9_readVisit_51 : decode cX9_readVisit 51 = .ok (.if_icmp .ge 31, 3) := by decide +kernel
theorem dgX9_readVisit_54 : decode cX9_readVisit 54 = .ok (.aload_n 0, 1) := by decide +kernel
theorem dgX9_readVisit_55 : decode cX9_readVisit 55 = .ok (.getfield 9, 3) := by decide +kernel
theorem dgX9_readVisit_58 : decode cX9_readVisit 58 = .ok (.aload_n 0, 1) := by decide +kernel
theorem dgX9_readVisit_59 : decode cX9_readVisit 59 = .ok (.getfield 37, 3) := by decide +kernel
theorem dgX9_readVisit_62 : decode cX9_readVisit 62 = .ok (.baload, 1) := by decide +kernel
theorem dgX9_readVisit_63 : decode cX9_readVisit 63 = .ok (.bipush 49, 2) := by decide +kernel
theorem dgX9_readVisit_65 : decode cX9_readVisit 65 = .ok (.if_icmp .lt 17, 3) := by decide +kernel
theorem dgX9_readVisit_68 : decode cX9_readVisit 68 = .ok (.aload_n 0, 1) := by decide +kernel
theorem dgX9_readVisit_69 : decode cX9_readVisit 69 = .ok (.getfield 9, 3) := by decide +kernel
theorem dgX9_readVisit_72 : decode cX9_readVisit 72 = .ok (.aload_n 0, 1) := by decide +kernel
theorem dgX9_readVisit_73 : decode cX9_readVisit 73 = .ok (.getfield 37, 3) := by decide +kernel
theorem dgX9_readVisit_76 : decode cX9_readVisit 76 = .ok (.baload, 1) := by decide +kernel
theorem dgX9_readVisit_77 : decode cX9_readVisit 77 = .ok (.bipush 57, 2) := by decide +kernel
theorem dgX9_readVisit_79 : decode cX9_readVisit 79 = .ok (.if_icmp .le 8, 3) := by decide +kernel
theorem dgX9_readVisit_82 : decode cX9_readVisit 82 = .ok (.aload_n 0, 1) := by decide +kernel
theorem dgX9_readVisit_83 : decode cX9_readVisit 83 = .ok (.getfield 37, 3) := by decide +kernel
theorem dgX9_readVisit_86 : decode cX9_readVisit 86 = .ok (.ireturn, 1) := by decide +kernel
theorem dgX9_readVisit_87 : decode cX9_readVisit 87 = .ok (.aload_n 0, 1) := by decide +kernel
theorem dgX9_readVisit_88 : decode cX9_readVisit 88 = .ok (.aload_n 0, 1) := by decide +kernel
theorem dgX9_readVisit_89 : decode cX9_readVisit 89 = .ok (.getfield 9, 3) := by decide +kernel
theorem dgX9_readVisit_92 : decode cX9_readVisit 92 = .ok (.aload_n 0, 1) := by decide +kernel
theorem dgX9_readVisit_93 : decode cX9_readVisit 93 = .ok (.getfield 37, 3) := by decide +kernel
theorem dgX9_readVisit_96 : decode cX9_readVisit 96 = .ok (.baload, 1) := by decide +kernel
theorem dgX9_readVisit_97 : decode cX9_readVisit 97 = .ok (.bipush 48, 2) := by decide +kernel
theorem dgX9_readVisit_99 : decode cX9_readVisit 99 = .ok (.isub, 1) := by decide +kernel
theorem dgX9_readVisit_100 : decode cX9_readVisit 100 = .ok (.putfield 63, 3) := by decide +kernel
theorem dgX9_readVisit_103 : decode cX9_readVisit 103 = .ok (.aload_n 0, 1) := by decide +kernel
theorem dgX9_readVisit_104 : decode cX9_readVisit 104 = .ok (.dup, 1) := by decide +kernel
theorem dgX9_readVisit_105 : decode cX9_readVisit 105 = .ok (.getfield 37, 3) := by decide +kernel
theorem dgX9_readVisit_108 : decode cX9_readVisit 108 = .ok (.iconst 1, 1) := by decide +kernel
theorem dgX9_readVisit_109 : decode cX9_readVisit 109 = .ok (.iadd, 1) := by decide +kernel
theorem dgX9_readVisit_110 : decode cX9_readVisit 110 = .ok (.putfield 37, 3) := by decide +kernel
theorem dgX9_readVisit_113 : decode cX9_readVisit 113 = .ok (.aload_n 0, 1) := by decide +kernel
theorem dgX9_readVisit_114 : decode cX9_readVisit 114 = .ok (.getfield 37, 3) := by decide +kernel
theorem dgX9_readVisit_117 : decode cX9_readVisit 117 = .ok (.aload_n 0, 1) := by decide +kernel
theorem dgX9_readVisit_118 : decode cX9_readVisit 118 = .ok (.getfield 22, 3) := by decide +kernel
theorem dgX9_readVisit_121 : decode cX9_readVisit 121 = .ok (.if_icmp .ge 65, 3) := by decide +kernel
theorem dgX9_readVisit_124 : decode cX9_readVisit 124 = .ok (.aload_n 0, 1) := by decide +kernel
theorem dgX9_readVisit_125 : decode cX9_readVisit 125 = .ok (.getfield 9, 3) := by decide +kernel
theorem dgX9_readVisit_128 : decode cX9_readVisit 128 = .ok (.aload_n 0, 1) := by decide +kernel
theorem dgX9_readVisit_129 : decode cX9_readVisit 129 = .ok (.getfield 37, 3) := by decide +kernel
theorem dgX9_readVisit_132 : decode cX9_readVisit 132 = .ok (.baload, 1) := by decide +kernel
theorem dgX9_readVisit_133 : decode cX9_readVisit 133 = .ok (.bipush 48, 2) := by decide +kernel
theorem dgX9_readVisit_135 : decode cX9_readVisit 135 = .ok (.if_icmp .lt 51, 3) := by decide +kernel
theorem dgX9_readVisit_138 : decode cX9_readVisit 138 = .ok (.aload_n 0, 1) := by decide +kernel
theorem dgX9_readVisit_139 : decode cX9_readVisit 139 = .ok (.getfield 9, 3) := by decide +kernel
theorem dgX9_readVisit_142 : decode cX9_readVisit 142 = .ok (.aload_n 0, 1) := by decide +kernel
theorem dgX9_readVisit_143 : decode cX9_readVisit 143 = .ok (.getfield 37, 3) := by decide +kernel
theorem dgX9_readVisit_146 : decode cX9_readVisit 146 = .ok (.baload, 1) := by decide +kernel
theorem dgX9_readVisit_147 : decode cX9_readVisit 147 = .ok (.bipush 57, 2) := by decide +kernel
theorem dgX9_readVisit_149 : decode cX9_readVisit 149 = .ok (.if_icmp .gt 37, 3) := by decide +kernel
theorem dgX9_readVisit_152 : decode cX9_readVisit 152 = .ok (.aload_n 0, 1) := by decide +kernel
theorem dgX9_readVisit_153 : decode cX9_readVisit 153 = .ok (.bipush 10, 2) := by decide +kernel
theorem dgX9_readVisit_155 : decode cX9_readVisit 155 = .ok (.aload_n 0, 1) := by decide +kernel
theorem dgX9_readVisit_156 : decode cX9_readVisit 156 = .ok (.getfield 63, 3) := by decide +kernel
theorem dgX9_readVisit_159 : decode cX9_readVisit 159 = .ok (.imul, 1) := by decide +kernel
theorem dgX9_readVisit_160 : decode cX9_readVisit 160 = .ok (.aload_n 0, 1) := by decide +kernel
theorem dgX9_readVisit_161 : decode cX9_readVisit 161 = .ok (.getfield 9, 3) := by decide +kernel
theorem dgX9_readVisit_164 : decode cX9_readVisit 164 = .ok (.aload_n 0, 1) := by decide +kernel
theorem dgX9_readVisit_165 : decode cX9_readVisit 165 = .ok (.getfield 37, 3) := by decide +kernel
theorem dgX9_readVisit_168 : decode cX9_readVisit 168 = .ok (.baload, 1) := by decide +kernel
theorem dgX9_readVisit_169 : decode cX9_readVisit 169 = .ok (.iadd, 1) := by decide +kernel
theorem dgX9_readVisit_170 : decode cX9_readVisit 170 = .ok (.bipush 48, 2) := by decide +kernel
theorem dgX9_readVisit_172 : decode cX9_readVisit 172 = .ok (.isub, 1) := by decide +kernel
theorem dgX9_readVisit_173 : decode cX9_readVisit 173 = .ok (.putfield 63, 3) := by decide +kernel
theorem dgX9_readVisit_176 : decode cX9_readVisit 176 = .ok (.aload_n 0, 1) := by decide +kernel
theorem dgX9_readVisit_177 : decode cX9_readVisit 177 = .ok (.dup, 1) := by decide +kernel
theorem dgX9_readVisit_178 : decode cX9_readVisit 178 = .ok (.getfield 37, 3) := by decide +kernel
theorem dgX9_readVisit_181 : decode cX9_readVisit 181 = .ok (.iconst 1, 1) := by decide +kernel
theorem dgX9_readVisit_182 : decode cX9_readVisit 182 = .ok (.iadd, 1) := by decide +kernel
theorem dgX9_readVisit_183 : decode cX9_readVisit 183 = .ok (.putfield 37, 3) := by decide +kernel
theorem dgX9_readVisit_186 : decode cX9_readVisit 186 = .ok (.aload_n 0, 1) := by decide +kernel
theorem dgX9_readVisit_187 : decode cX9_readVisit 187 = .ok (.getfield 37, 3) := by decide +kernel
theorem dgX9_readVisit_190 : decode cX9_readVisit 190 = .ok (.aload_n 0, 1) := by decide +kernel
theorem dgX9_readVisit_191 : decode cX9_readVisit 191 = .ok (.getfield 22, 3) := by decide +kernel
theorem dgX9_readVisit_194 : decode cX9_readVisit 194 = .ok (.if_icmp .ge 31, 3) := by decide +kernel
theorem dgX9_readVisit_197 : decode cX9_readVisit 197 = .ok (.aload_n 0, 1) := by decide +kernel
theorem dgX9_readVisit_198 : decode cX9_readVisit 198 = .ok (.getfield 9, 3) := by decide +kernel
theorem dgX9_readVisit_201 : decode cX9_readVisit 201 = .ok (.aload_n 0, 1) := by decide +kernel
theorem dgX9_readVisit_202 : decode cX9_readVisit 202 = .ok (.getfield 37, 3) := by decide +kernel
theorem dgX9_readVisit_205 : decode cX9_readVisit 205 = .ok (.baload, 1) := by decide +kernel
theorem dgX9_readVisit_206 : decode cX9_readVisit 206 = .ok (.bipush 43, 2) := by decide +kernel
theorem dgX9_readVisit_208 : decode cX9_readVisit 208 = .ok (.if_icmp .eq 22, 3) := by decide +kernel
theorem dgX9_readVisit_211 : decode cX9_readVisit 211 = .ok (.aload_n 0, 1) := by decide +kernel
theorem dgX9_readVisit_212 : decode cX9_readVisit 212 = .ok (.getfield 9, 3) := by decide +kernel
theorem dgX9_readVisit_215 : decode cX9_readVisit 215 = .ok (.aload_n 0, 1) := by decide +kernel
theorem dgX9_readVisit_216 : decode cX9_readVisit 216 = .ok (.getfield 37, 3) := by decide +kernel
theorem dgX9_readVisit_219 : decode cX9_readVisit 219 = .ok (.baload, 1) := by decide +kernel
theorem dgX9_readVisit_220 : decode cX9_readVisit 220 = .ok (.bipush 45, 2) := by decide +kernel
theorem dgX9_readVisit_222 : decode cX9_readVisit 222 = .ok (.if_icmp .eq 8, 3) := by decide +kernel
theorem dgX9_readVisit_225 : decode cX9_readVisit 225 = .ok (.aload_n 0, 1) := by decide +kernel
theorem dgX9_readVisit_226 : decode cX9_readVisit 226 = .ok (.getfield 37, 3) := by decide +kernel
theorem dgX9_readVisit_229 : decode cX9_readVisit 229 = .ok (.ireturn, 1) := by decide +kernel
theorem dgX9_readVisit_230 : decode cX9_readVisit 230 = .ok (.aload_n 0, 1) := by decide +kernel
theorem dgX9_readVisit_231 : decode cX9_readVisit 231 = .ok (.dup, 1) := by decide +kernel
theorem dgX9_readVisit_232 : decode cX9_readVisit 232 = .ok (.getfield 37, 3) := by decide +kernel
theorem dgX9_readVisit_235 : decode cX9_readVisit 235 = .ok (.iconst 1, 1) := by decide +kernel
theorem dgX9_readVisit_236 : decode cX9_readVisit 236 = .ok (.iadd, 1) := by decide +kernel
theorem dgX9_readVisit_237 : decode cX9_readVisit 237 = .ok (.putfield 37, 3) := by decide +kernel
theorem dgX9_readVisit_240 : decode cX9_readVisit 240 = .ok (.iconst (-1), 1) := by decide +kernel
theorem dgX9_readVisit_241 : decode cX9_readVisit 241 = .ok (.ireturn, 1) := by decide +kernel
def wg_X9_readVisit : List Cond := .code yX9_readVisit cX9_readVisit 1 (some .int) :: (([.fieldLink RX9 9 "KnotHouse$Reader" "tape" "[B", .fieldLink RX9 37 "KnotHouse$Reader" "at" "I", .fieldLink RX9 22 "KnotHouse$Reader" "length" "I", .fieldLink RX9 63 "KnotHouse$Reader" "name" "I"] ++ wsX90) ++ [])
set_option maxHeartbeats 4000000 in
set_option maxRecDepth 100000 in
theorem kg_X9_readVisit (l : Launch) (dC : Nat → ClassId) (dI : Nat → Nat → Nat) (cI cB cJ cZ : ClassId) (aR : Nat) (rx : Nat → Nat) (tp : Nat → Int32) (n a : Nat) (hn : n ≤ 400) (ha : a < n) (nm : Int32) (sz : Nat) : Met l yX9_readVisit wg_X9_readVisit (({ frames := 0, cells := 0, slots := 0, locals := 0 } : Room)) (va_Pc [.ref aR] (fun U => U.heap.size = sz ∧ va_P (dC, dI) vwCl [(aR, .inr (12, [.int (nI n), .ref (rx 0), .ref (rx 1), .ref (rx 2), .int (nI a), .int nm])), ((rx 0), .inl (cB, 400, .inl tp))] U.heap ∧ va_K (dC, dI) vwCl [(cI, .int), (cB, .byte), (cJ, .long), (cZ, .boolean)] U ∧ va_D (fun _ => True) [(aR, .inr (12, [.int (nI n), .ref (rx 0), .ref (rx 1), .ref (rx 2), .int (nI a), .int nm])), ((rx 0), .inl (cB, 400, .inl tp))])) (va_Qi (fun r (g : Unit) => r = onI (rv_0 tp n a nm).1) (fun g t => va_P (dC, dI) vwCl [(aR, .inr (12, [.int (nI n), .ref (rx 0), .ref (rx 1), .ref (rx 2), .int (nI (rv_0 tp n a nm).2.1), .int (rv_0 tp n a nm).2.2])), ((rx 0), .inl (cB, 400, .inl tp))] t.heap ∧ va_D (va_A [(aR, .inr (12, [.int (nI n), .ref (rx 0), .ref (rx 1), .ref (rx 2), .int (nI a), .int nm])), ((rx 0), .inl (cB, 400, .inl tp))] sz) [(aR, .inr (12, [.int (nI n), .ref (rx 0), .ref (rx 1), .ref (rx 2), .int (nI (rv_0 tp n a nm).2.1), .int (rv_0 tp n a nm).2.2])), ((rx 0), .inl (cB, 400, .inl tp))]) (va_A [(aR, .inr (12, [.int (nI n), .ref (rx 0), .ref (rx 1), .ref (rx 2), .int (nI a), .int nm])), ((rx 0), .inl (cB, 400, .inl tp))] sz)) 0 0 (va_A [(aR, .inr (12, [.int (nI n), .ref (rx 0), .ref (rx 1), .ref (rx 2), .int (nI a), .int nm])), ((rx 0), .inl (cB, 400, .inl tp))] sz) := by
  refine Met.ofW (cc := cX9_readVisit) (maxL := 1) (ret := (some .int)) (by decide) rfl ?_
  intro p e s m args below meth c s₁ B hml hv
  obtain ⟨rfl, hsz, hP, hK, hD0⟩ := hv
  have hx := B.exec
  have hb := B.bytes
  have hr := B.returns
  have hts := atoms_spec (ws := wg_X9_readVisit) B.pre
  have hown : s.vm.findClass RX9 = some m.cls := findClass_of_methodNamed B.named
  have hlocks := B.notSynchronized
  subst hsz
  have hD := hD0.self (sz := s.heap.size)
  generalize hAe : va_A [(aR, .inr (12, [.int (nI n), .ref (rx 0), .ref (rx 1), .ref (rx 2), .int (nI a), .int nm])), ((rx 0), .inl (cB, 400, .inl tp))] s.heap.size = A at hD ⊢
  have hA : ∀ q : Nat, s.heap.size ≤ q → A q := fun q h => by rw [← hAe]; exact Or.inr h
  have hS : va_S A s.heap s.heap [] := va_S.rf
  have hP : va_P (dC, dI) vwCl [(aR, .inr (12, [.int (nI n), .ref (rx 0), .ref (rx 1), .ref (rx 2), .int (nI a), .int nm])), ((rx 0), .inl (cB, 400, .inl tp))] s.heap := hP
  have hl := lv_entry ([.ref aR]) (n := 1) (Nat.le_of_ble_eq_true rfl)
  rw [lg_entry_eq]
  generalize (lg_sl ([.ref aR]) ++ List.replicate (1 - (lg_sl ([.ref aR])).length) Slot.unset).toArray = ls at hl ⊢
  have hl : lv_has ls 1 [(0, .ref aR)] := hl
  refine ow_named (fun QQ hQQ => ?_)
  suffices key9 : ∀ (H : Heap) (locs : List Loc), va_P (dC, dI) vwCl [(aR, .inr (12, [.int (nI n), .ref (rx 0), .ref (rx 1), .ref (rx 2), .int (nI a), .int nm])), ((rx 0), .inl (cB, 400, .inl tp))] H → va_S A s.heap H locs → W p l e ({ frames := 0, cells := 0, slots := 0, locals := 0 } : Room) s m ([.ref aR] : List Value).toArray below meth c H locs 0 0 QQ (F0 m 0 ls []) from key9 s.heap [] hP hS
  intro H locs hP hS
  have K186 : ∀ (b : Nat) (z : Int32), b ≤ n → (rv_0 tp n a nm) = rv_3 tp n b z → ∀ (H : Heap) (locs : List Loc) (ls : Array Slot), va_P (dC, dI) vwCl [(aR, .inr (12, [.int (nI n), .ref (rx 0), .ref (rx 1), .ref (rx 2), .int (nI b), .int z])), ((rx 0), .inl (cB, 400, .inl tp))] H → va_D A [(aR, .inr (12, [.int (nI n), .ref (rx 0), .ref (rx 1), .ref (rx 2), .int (nI b), .int z])), ((rx 0), .inl (cB, 400, .inl tp))] → va_S A s.heap H locs → lv_has ls 1 [(0, .ref aR)] → W p l e ({ frames := 0, cells := 0, slots := 0, locals := 0 } : Room) s m ([.ref aR] : List Value).toArray below meth c H locs 0 0 QQ (F0 m 186 ls []) := by
    intro b z hbn hq H locs ls hP hD hS hl
    rw [rv_3] at hq
    refine lv_aload_n hx hb dgX9_readVisit_186 rfl (lv_at hl 0 rfl) ?_
    refine va_get (D := (dC, dI)) (ci := 12) (v := .int (nI b)) (C := RX9) (T := TX9) (N := 6) hx hb hts (fun _ h => List.mem_cons_of_mem _ (List.mem_append_left _ (List.mem_append_right _ h))) hown hK hP 0 rfl rfl 4 (by decide) (hts (.fieldLink RX9 37 "KnotHouse$Reader" "at" "I") (by decide +kernel)) (fun _ h9 => h9) rfl dgX9_readVisit_187 ?_
    refine lv_aload_n hx hb dgX9_readVisit_190 rfl (lv_at hl 0 rfl) ?_
    refine va_get (D := (dC, dI)) (ci := 12) (v := .int (nI n)) (C := RX9) (T := TX9) (N := 6) hx hb hts (fun _ h => List.mem_cons_of_mem _ (List.mem_append_left _ (List.mem_append_right _ h))) hown hK hP 0 rfl rfl 0 (by decide) (hts (.fieldLink RX9 22 "KnotHouse$Reader" "length" "I") (by decide +kernel)) (fun _ h9 => h9) rfl dgX9_readVisit_191 ?_
    rcases Nat.lt_or_ge b n with h1 | h1
    · refine lv_icmp_ge (tgt := 225) hx hb dgX9_readVisit_194 (by decide) (fun c9 => absurd c9 (nI_ge (a := b) (b := n) h1 (by omega))) (fun _ => ?_)
      refine lv_aload_n hx hb dgX9_readVisit_197 rfl (lv_at hl 0 rfl) ?_
      refine va_get (D := (dC, dI)) (ci := 12) (v := .ref (rx 0)) (C := RX9) (T := TX9) (N := 6) hx hb hts (fun _ h => List.mem_cons_of_mem _ (List.mem_append_left _ (List.mem_append_right _ h))) hown hK hP 0 rfl rfl 1 (by decide) (hts (.fieldLink RX9 9 "KnotHouse$Reader" "tape" "[B") (by decide +kernel)) (fun _ h9 => h9) rfl dgX9_readVisit_198 ?_
      refine lv_aload_n hx hb dgX9_readVisit_201 rfl (lv_at hl 0 rfl) ?_
      refine va_get (D := (dC, dI)) (ci := 12) (v := .int (nI b)) (C := RX9) (T := TX9) (N := 6) hx hb hts (fun _ h => List.mem_cons_of_mem _ (List.mem_append_left _ (List.mem_append_right _ h))) hown hK hP 0 rfl rfl 4 (by decide) (hts (.fieldLink RX9 37 "KnotHouse$Reader" "at" "I") (by decide +kernel)) (fun _ h9 => h9) rfl dgX9_readVisit_202 ?_
      refine va_bald hx hb hK hP 1 1 rfl rfl (vp_in_nI (n := b) (N := 400) (by omega) (by decide)) dgX9_readVisit_205 ?_
      refine ow_topi (y := tp b) (congrArg tp (nI_clamp (n := b) (Nat.lt_trans (m := 400) (by omega) (by decide)))) ?_
      refine lv_bipush (v := 43) hx hb dgX9_readVisit_206 (by decide) ?_
      rcases Decidable.em (tp b = 43) with h2 | h2
      · rw [if_pos ⟨h1, Or.inl h2⟩] at hq
        refine lv_icmp_eq (tgt := 230) hx hb dgX9_readVisit_208 (by decide) (fun _ => ?_) (fun c9 => absurd (h2) c9)
        refine lv_aload_n hx hb dgX9_readVisit_230 rfl (lv_at hl 0 rfl) ?_
        refine lv_dup hx hb dgX9_readVisit_231 rfl ?_
        refine va_get (D := (dC, dI)) (ci := 12) (v := .int (nI b)) (C := RX9) (T := TX9) (N := 6) hx hb hts (fun _ h => List.mem_cons_of_mem _ (List.mem_append_left _ (List.mem_append_right _ h))) hown hK hP 0 rfl rfl 4 (by decide) (hts (.fieldLink RX9 37 "KnotHouse$Reader" "at" "I") (by decide +kernel)) (fun _ h9 => h9) rfl dgX9_readVisit_232 ?_
        refine lv_iconst (v := 1) hx hb dgX9_readVisit_235 (by decide) ?_
        refine lv_iadd hx hb dgX9_readVisit_236 ?_
        refine ow_topi (y := nI (b + 1)) (nI_1 (b)) ?_
        refine va_put (D := (dC, dI)) (ci := 12) (v := .int (nI (b + 1))) (ty := .int) (C := RX9) (T := TX9) (N := 6) hx hb hts (fun _ h => List.mem_cons_of_mem _ (List.mem_append_left _ (List.mem_append_right _ h))) tyX9 tyX9_ok nmX9 hown hK hP hD hS 0 rfl rfl 4 (by decide) (hts (.fieldLink RX9 37 "KnotHouse$Reader" "at" "I") (by decide +kernel)) (fun _ h9 => h9) rfl (by decide +kernel) rfl rfl (Nat.le_of_ble_eq_true rfl) dgX9_readVisit_237 (fun H locs hP hD hS => ?_)
        have hP : va_P (dC, dI) vwCl [(aR, .inr (12, [.int (nI n), .ref (rx 0), .ref (rx 1), .ref (rx 2), .int (nI (b + 1)), .int z])), ((rx 0), .inl (cB, 400, .inl tp))] H := hP
        have hD : va_D A [(aR, .inr (12, [.int (nI n), .ref (rx 0), .ref (rx 1), .ref (rx 2), .int (nI (b + 1)), .int z])), ((rx 0), .inl (cB, 400, .inl tp))] := hD
        refine lv_iconst (v := (-1)) hx hb dgX9_readVisit_240 (by decide) ?_
        have hP : va_P (dC, dI) vwCl [(aR, .inr (12, [.int (nI n), .ref (rx 0), .ref (rx 1), .ref (rx 2), .int (nI (rv_0 tp n a nm).2.1), .int (rv_0 tp n a nm).2.2])), ((rx 0), .inl (cB, 400, .inl tp))] H := by rw [hq]; exact hP
        have hD : va_D A [(aR, .inr (12, [.int (nI n), .ref (rx 0), .ref (rx 1), .ref (rx 2), .int (nI (rv_0 tp n a nm).2.1), .int (rv_0 tp n a nm).2.2])), ((rx 0), .inl (cB, 400, .inl tp))] := by rw [hq]; exact hD
        rw [hQQ]
        exact W.iret (v := (-1)) hx hb hr (fun t ht hW => ⟨⟨(-1), (), rfl, by rw [hq]; rfl, by rw [ht]; exact hP, hD⟩, hS.F ht⟩) hS.2.2 dgX9_readVisit_241
      · refine lv_icmp_eq (tgt := 230) hx hb dgX9_readVisit_208 (by decide) (fun c9 => absurd c9 (h2)) (fun _ => ?_)
        refine lv_aload_n hx hb dgX9_readVisit_211 rfl (lv_at hl 0 rfl) ?_
        refine va_get (D := (dC, dI)) (ci := 12) (v := .ref (rx 0)) (C := RX9) (T := TX9) (N := 6) hx hb hts (fun _ h => List.mem_cons_of_mem _ (List.mem_append_left _ (List.mem_append_right _ h))) hown hK hP 0 rfl rfl 1 (by decide) (hts (.fieldLink RX9 9 "KnotHouse$Reader" "tape" "[B") (by decide +kernel)) (fun _ h9 => h9) rfl dgX9_readVisit_212 ?_
        refine lv_aload_n hx hb dgX9_readVisit_215 rfl (lv_at hl 0 rfl) ?_
        refine va_get (D := (dC, dI)) (ci := 12) (v := .int (nI b)) (C := RX9) (T := TX9) (N := 6) hx hb hts (fun _ h => List.mem_cons_of_mem _ (List.mem_append_left _ (List.mem_append_right _ h))) hown hK hP 0 rfl rfl 4 (by decide) (hts (.fieldLink RX9 37 "KnotHouse$Reader" "at" "I") (by decide +kernel)) (fun _ h9 => h9) rfl dgX9_readVisit_216 ?_
        refine va_bald hx hb hK hP 1 1 rfl rfl (vp_in_nI (n := b) (N := 400) (by omega) (by decide)) dgX9_readVisit_219 ?_
        refine ow_topi (y := tp b) (congrArg tp (nI_clamp (n := b) (Nat.lt_trans (m := 400) (by omega) (by decide)))) ?_
        refine lv_bipush (v := 45) hx hb dgX9_readVisit_220 (by decide) ?_
        rcases Decidable.em (tp b = 45) with h3 | h3
        · rw [if_pos ⟨h1, Or.inr h3⟩] at hq
          refine lv_icmp_eq (tgt := 230) hx hb dgX9_readVisit_222 (by decide) (fun _ => ?_) (fun c9 => absurd (h3) c9)
          refine lv_aload_n hx hb dgX9_readVisit_230 rfl (lv_at hl 0 rfl) ?_
          refine lv_dup hx hb dgX9_readVisit_231 rfl ?_
          refine va_get (D := (dC, dI)) (ci := 12) (v := .int (nI b)) (C := RX9) (T := TX9) (N := 6) hx hb hts (fun _ h => List.mem_cons_of_mem _ (List.mem_append_left _ (List.mem_append_right _ h))) hown hK hP 0 rfl rfl 4 (by decide) (hts (.fieldLink RX9 37 "KnotHouse$Reader" "at" "I") (by decide +kernel)) (fun _ h9 => h9) rfl dgX9_readVisit_232 ?_
          refine lv_iconst (v := 1) hx hb dgX9_readVisit_235 (by decide) ?_
          refine lv_iadd hx hb dgX9_readVisit_236 ?_
          refine ow_topi (y := nI (b + 1)) (nI_1 (b)) ?_
          refine va_put (D := (dC, dI)) (ci := 12) (v := .int (nI (b + 1))) (ty := .int) (C := RX9) (T := TX9) (N := 6) hx hb hts (fun _ h => List.mem_cons_of_mem _ (List.mem_append_left _ (List.mem_append_right _ h))) tyX9 tyX9_ok nmX9 hown hK hP hD hS 0 rfl rfl 4 (by decide) (hts (.fieldLink RX9 37 "KnotHouse$Reader" "at" "I") (by decide +kernel)) (fun _ h9 => h9) rfl (by decide +kernel) rfl rfl (Nat.le_of_ble_eq_true rfl) dgX9_readVisit_237 (fun H locs hP hD hS => ?_)
          have hP : va_P (dC, dI) vwCl [(aR, .inr (12, [.int (nI n), .ref (rx 0), .ref (rx 1), .ref (rx 2), .int (nI (b + 1)), .int z])), ((rx 0), .inl (cB, 400, .inl tp))] H := hP
          have hD : va_D A [(aR, .inr (12, [.int (nI n), .ref (rx 0), .ref (rx 1), .ref (rx 2), .int (nI (b + 1)), .int z])), ((rx 0), .inl (cB, 400, .inl tp))] := hD
          refine lv_iconst (v := (-1)) hx hb dgX9_readVisit_240 (by decide) ?_
          have hP : va_P (dC, dI) vwCl [(aR, .inr (12, [.int (nI n), .ref (rx 0), .ref (rx 1), .ref (rx 2), .int (nI (rv_0 tp n a nm).2.1), .int (rv_0 tp n a nm).2.2])), ((rx 0), .inl (cB, 400, .inl tp))] H := by rw [hq]; exact hP
          have hD : va_D A [(aR, .inr (12, [.int (nI n), .ref (rx 0), .ref (rx 1), .ref (rx 2), .int (nI (rv_0 tp n a nm).2.1), .int (rv_0 tp n a nm).2.2])), ((rx 0), .inl (cB, 400, .inl tp))] := by rw [hq]; exact hD
          rw [hQQ]
          exact W.iret (v := (-1)) hx hb hr (fun t ht hW => ⟨⟨(-1), (), rfl, by rw [hq]; rfl, by rw [ht]; exact hP, hD⟩, hS.F ht⟩) hS.2.2 dgX9_readVisit_241
        · rw [if_neg (fun h9 => h9.2.elim h2 h3)] at hq
          refine lv_icmp_eq (tgt := 230) hx hb dgX9_readVisit_222 (by decide) (fun c9 => absurd c9 (h3)) (fun _ => ?_)
          refine lv_aload_n hx hb dgX9_readVisit_225 rfl (lv_at hl 0 rfl) ?_
          refine va_get (D := (dC, dI)) (ci := 12) (v := .int (nI b)) (C := RX9) (T := TX9) (N := 6) hx hb hts (fun _ h => List.mem_cons_of_mem _ (List.mem_append_left _ (List.mem_append_right _ h))) hown hK hP 0 rfl rfl 4 (by decide) (hts (.fieldLink RX9 37 "KnotHouse$Reader" "at" "I") (by decide +kernel)) (fun _ h9 => h9) rfl dgX9_readVisit_226 ?_
          have hP : va_P (dC, dI) vwCl [(aR, .inr (12, [.int (nI n), .ref (rx 0), .ref (rx 1), .ref (rx 2), .int (nI (rv_0 tp n a nm).2.1), .int (rv_0 tp n a nm).2.2])), ((rx 0), .inl (cB, 400, .inl tp))] H := by rw [hq]; exact hP
          have hD : va_D A [(aR, .inr (12, [.int (nI n), .ref (rx 0), .ref (rx 1), .ref (rx 2), .int (nI (rv_0 tp n a nm).2.1), .int (rv_0 tp n a nm).2.2])), ((rx 0), .inl (cB, 400, .inl tp))] := by rw [hq]; exact hD
          rw [hQQ]
          exact W.iret (v := (nI b)) hx hb hr (fun t ht hW => ⟨⟨(nI b), (), rfl, by rw [hq]; rfl, by rw [ht]; exact hP, hD⟩, hS.F ht⟩) hS.2.2 dgX9_readVisit_229
    · rw [if_neg (fun h9 => absurd h9.1 (Nat.not_lt.mpr h1))] at hq
      refine lv_icmp_ge (tgt := 225) hx hb dgX9_readVisit_194 (by decide) (fun _ => ?_) (fun c9 => absurd (nI_le (a := n) (b := b) h1 (by omega)) c9)
      refine lv_aload_n hx hb dgX9_readVisit_225 rfl (lv_at hl 0 rfl) ?_
      refine va_get (D := (dC, dI)) (ci := 12) (v := .int (nI b)) (C := RX9) (T := TX9) (N := 6) hx hb hts (fun _ h => List.mem_cons_of_mem _ (List.mem_append_left _ (List.mem_append_right _ h))) hown hK hP 0 rfl rfl 4 (by decide) (hts (.fieldLink RX9 37 "KnotHouse$Reader" "at" "I") (by decide +kernel)) (fun _ h9 => h9) rfl dgX9_readVisit_226 ?_
      have hP : va_P (dC, dI) vwCl [(aR, .inr (12, [.int (nI n), .ref (rx 0), .ref (rx 1), .ref (rx 2), .int (nI (rv_0 tp n a nm).2.1), .int (rv_0 tp n a nm).2.2])), ((rx 0), .inl (cB, 400, .inl tp))] H := by rw [hq]; exact hP
      have hD : va_D A [(aR, .inr (12, [.int (nI n), .ref (rx 0), .ref (rx 1), .ref (rx 2), .int (nI (rv_0 tp n a nm).2.1), .int (rv_0 tp n a nm).2.2])), ((rx 0), .inl (cB, 400, .inl tp))] := by rw [hq]; exact hD
      rw [hQQ]
      exact W.iret (v := (nI b)) hx hb hr (fun t ht hW => ⟨⟨(nI b), (), rfl, by rw [hq]; rfl, by rw [ht]; exact hP, hD⟩, hS.F ht⟩) hS.2.2 dgX9_readVisit_229
  have K33 : (rv_0 tp n a nm) = rv_1 tp n (a + 1) nm → ∀ (H : Heap) (locs : List Loc) (ls : Array Slot), va_P (dC, dI) vwCl [(aR, .inr (12, [.int (nI n), .ref (rx 0), .ref (rx 1), .ref (rx 2), .int (nI a), .int nm])), ((rx 0), .inl (cB, 400, .inl tp))] H → va_D A [(aR, .inr (12, [.int (nI n), .ref (rx 0), .ref (rx 1), .ref (rx 2), .int (nI a), .int nm])), ((rx 0), .inl (cB, 400, .inl tp))] → va_S A s.heap H locs → lv_has ls 1 [(0, .ref aR)] → W p l e ({ frames := 0, cells := 0, slots := 0, locals := 0 } : Room) s m ([.ref aR] : List Value).toArray below meth c H locs 0 0 QQ (F0 m 33 ls []) := by
    intro hq H locs ls hP hD hS hl
    rw [rv_1] at hq
    refine lv_aload_n hx hb dgX9_readVisit_33 rfl (lv_at hl 0 rfl) ?_
    refine lv_dup hx hb dgX9_readVisit_34 rfl ?_
    refine va_get (D := (dC, dI)) (ci := 12) (v := .int (nI a)) (C := RX9) (T := TX9) (N := 6) hx hb hts (fun _ h => List.mem_cons_of_mem _ (List.mem_append_left _ (List.mem_append_right _ h))) hown hK hP 0 rfl rfl 4 (by decide) (hts (.fieldLink RX9 37 "KnotHouse$Reader" "at" "I") (by decide +kernel)) (fun _ h9 => h9) rfl dgX9_readVisit_35 ?_
    refine lv_iconst (v := 1) hx hb dgX9_readVisit_38 (by decide) ?_
    refine lv_iadd hx hb dgX9_readVisit_39 ?_
    refine ow_topi (y := nI (a + 1)) (nI_1 (a)) ?_
    refine va_put (D := (dC, dI)) (ci := 12) (v := .int (nI (a + 1))) (ty := .int) (C := RX9) (T := TX9) (N := 6) hx hb hts (fun _ h => List.mem_cons_of_mem _ (List.mem_append_left _ (List.mem_append_right _ h))) tyX9 tyX9_ok nmX9 hown hK hP hD hS 0 rfl rfl 4 (by decide) (hts (.fieldLink RX9 37 "KnotHouse$Reader" "at" "I") (by decide +kernel)) (fun _ h9 => h9) rfl (by decide +kernel) rfl rfl (Nat.le_of_ble_eq_true rfl) dgX9_readVisit_40 (fun H locs hP hD hS => ?_)
    have hP : va_P (dC, dI) vwCl [(aR, .inr (12, [.int (nI n), .ref (rx 0), .ref (rx 1), .ref (rx 2), .int (nI (a + 1)), .int nm])), ((rx 0), .inl (cB, 400, .inl tp))] H := hP
    have hD : va_D A [(aR, .inr (12, [.int (nI n), .ref (rx 0), .ref (rx 1), .ref (rx 2), .int (nI (a + 1)), .int nm])), ((rx 0), .inl (cB, 400, .inl tp))] := hD
    refine lv_aload_n hx hb dgX9_readVisit_43 rfl (lv_at hl 0 rfl) ?_
    refine va_get (D := (dC, dI)) (ci := 12) (v := .int (nI (a + 1))) (C := RX9) (T := TX9) (N := 6) hx hb hts (fun _ h => List.mem_cons_of_mem _ (List.mem_append_left _ (List.mem_append_right _ h))) hown hK hP 0 rfl rfl 4 (by decide) (hts (.fieldLink RX9 37 "KnotHouse$Reader" "at" "I") (by decide +kernel)) (fun _ h9 => h9) rfl dgX9_readVisit_44 ?_
    refine lv_aload_n hx hb dgX9_readVisit_47 rfl (lv_at hl 0 rfl) ?_
    refine va_get (D := (dC, dI)) (ci := 12) (v := .int (nI n)) (C := RX9) (T := TX9) (N := 6) hx hb hts (fun _ h => List.mem_cons_of_mem _ (List.mem_append_left _ (List.mem_append_right _ h))) hown hK hP 0 rfl rfl 0 (by decide) (hts (.fieldLink RX9 22 "KnotHouse$Reader" "length" "I") (by decide +kernel)) (fun _ h9 => h9) rfl dgX9_readVisit_48 ?_
    rcases Nat.lt_or_ge (a + 1) n with h1 | h1
    · refine lv_icmp_ge (tgt := 82) hx hb dgX9_readVisit_51 (by decide) (fun c9 => absurd c9 (nI_ge (a := a + 1) (b := n) h1 (by omega))) (fun _ => ?_)
      refine lv_aload_n hx hb dgX9_readVisit_54 rfl (lv_at hl 0 rfl) ?_
      refine va_get (D := (dC, dI)) (ci := 12) (v := .ref (rx 0)) (C := RX9) (T := TX9) (N := 6) hx hb hts (fun _ h => List.mem_cons_of_mem _ (List.mem_append_left _ (List.mem_append_right _ h))) hown hK hP 0 rfl rfl 1 (by decide) (hts (.fieldLink RX9 9 "KnotHouse$Reader" "tape" "[B") (by decide +kernel)) (fun _ h9 => h9) rfl dgX9_readVisit_55 ?_
      refine lv_aload_n hx hb dgX9_readVisit_58 rfl (lv_at hl 0 rfl) ?_
      refine va_get (D := (dC, dI)) (ci := 12) (v := .int (nI (a + 1))) (C := RX9) (T := TX9) (N := 6) hx hb hts (fun _ h => List.mem_cons_of_mem _ (List.mem_append_left _ (List.mem_append_right _ h))) hown hK hP 0 rfl rfl 4 (by decide) (hts (.fieldLink RX9 37 "KnotHouse$Reader" "at" "I") (by decide +kernel)) (fun _ h9 => h9) rfl dgX9_readVisit_59 ?_
      refine va_bald hx hb hK hP 1 1 rfl rfl (vp_in_nI (n := a + 1) (N := 400) (by omega) (by decide)) dgX9_readVisit_62 ?_
      refine ow_topi (y := tp (a + 1)) (congrArg tp (nI_clamp (n := a + 1) (Nat.lt_trans (m := 400) (by omega) (by decide)))) ?_
      refine lv_bipush (v := 49) hx hb dgX9_readVisit_63 (by decide) ?_
      rcases Decidable.em (tp (a + 1) < 49) with h2 | h2
      · rw [if_neg (fun h9 => Int32.not_lt.mpr h9.2.1 h2)] at hq
        refine lv_icmp_lt (tgt := 82) hx hb dgX9_readVisit_65 (by decide) (fun _ => ?_) (fun c9 => absurd (h2) c9)
        refine lv_aload_n hx hb dgX9_readVisit_82 rfl (lv_at hl 0 rfl) ?_
        refine va_get (D := (dC, dI)) (ci := 12) (v := .int (nI (a + 1))) (C := RX9) (T := TX9) (N := 6) hx hb hts (fun _ h => List.mem_cons_of_mem _ (List.mem_append_left _ (List.mem_append_right _ h))) hown hK hP 0 rfl rfl 4 (by decide) (hts (.fieldLink RX9 37 "KnotHouse$Reader" "at" "I") (by decide +kernel)) (fun _ h9 => h9) rfl dgX9_readVisit_83 ?_
        have hP : va_P (dC, dI) vwCl [(aR, .inr (12, [.int (nI n), .ref (rx 0), .ref (rx 1), .ref (rx 2), .int (nI (rv_0 tp n a nm).2.1), .int (rv_0 tp n a nm).2.2])), ((rx 0), .inl (cB, 400, .inl tp))] H := by rw [hq]; exact hP
        have hD : va_D A [(aR, .inr (12, [.int (nI n), .ref (rx 0), .ref (rx 1), .ref (rx 2), .int (nI (rv_0 tp n a nm).2.1), .int (rv_0 tp n a nm).2.2])), ((rx 0), .inl (cB, 400, .inl tp))] := by rw [hq]; exact hD
        rw [hQQ]
        exact W.iret (v := (nI (a + 1))) hx hb hr (fun t ht hW => ⟨⟨(nI (a + 1)), (), rfl, by rw [hq]; rfl, by rw [ht]; exact hP, hD⟩, hS.F ht⟩) hS.2.2 dgX9_readVisit_86
      · refine lv_icmp_lt (tgt := 82) hx hb dgX9_readVisit_65 (by decide) (fun c9 => absurd c9 (h2)) (fun _ => ?_)
        refine lv_aload_n hx hb dgX9_readVisit_68 rfl (lv_at hl 0 rfl) ?_
        refine va_get (D := (dC, dI)) (ci := 12) (v := .ref (rx 0)) (C := RX9) (T := TX9) (N := 6) hx hb hts (fun _ h => List.mem_cons_of_mem _ (List.mem_append_left _ (List.mem_append_right _ h))) hown hK hP 0 rfl rfl 1 (by decide) (hts (.fieldLink RX9 9 "KnotHouse$Reader" "tape" "[B") (by decide +kernel)) (fun _ h9 => h9) rfl dgX9_readVisit_69 ?_
        refine lv_aload_n hx hb dgX9_readVisit_72 rfl (lv_at hl 0 rfl) ?_
        refine va_get (D := (dC, dI)) (ci := 12) (v := .int (nI (a + 1))) (C := RX9) (T := TX9) (N := 6) hx hb hts (fun _ h => List.mem_cons_of_mem _ (List.mem_append_left _ (List.mem_append_right _ h))) hown hK hP 0 rfl rfl 4 (by decide) (hts (.fieldLink RX9 37 "KnotHouse$Reader" "at" "I") (by decide +kernel)) (fun _ h9 => h9) rfl dgX9_readVisit_73 ?_
        refine va_bald hx hb hK hP 1 1 rfl rfl (vp_in_nI (n := a + 1) (N := 400) (by omega) (by decide)) dgX9_readVisit_76 ?_
        refine ow_topi (y := tp (a + 1)) (congrArg tp (nI_clamp (n := a + 1) (Nat.lt_trans (m := 400) (by omega) (by decide)))) ?_
        refine lv_bipush (v := 57) hx hb dgX9_readVisit_77 (by decide) ?_
        rcases Decidable.em (tp (a + 1) ≤ 57) with h3 | h3
        · rw [if_pos ⟨h1, Int32.not_lt.mp h2, h3⟩] at hq
          rw [rv_2] at hq
          refine lv_icmp_le (tgt := 87) hx hb dgX9_readVisit_79 (by decide) (fun _ => ?_) (fun c9 => absurd (h3) c9)
          refine lv_aload_n hx hb dgX9_readVisit_87 rfl (lv_at hl 0 rfl) ?_
          refine lv_aload_n hx hb dgX9_readVisit_88 rfl (lv_at hl 0 rfl) ?_
          refine va_get (D := (dC, dI)) (ci := 12) (v := .ref (rx 0)) (C := RX9) (T := TX9) (N := 6) hx hb hts (fun _ h => List.mem_cons_of_mem _ (List.mem_append_left _ (List.mem_append_right _ h))) hown hK hP 0 rfl rfl 1 (by decide) (hts (.fieldLink RX9 9 "KnotHouse$Reader" "tape" "[B") (by decide +kernel)) (fun _ h9 => h9) rfl dgX9_readVisit_89 ?_
          refine lv_aload_n hx hb dgX9_readVisit_92 rfl (lv_at hl 0 rfl) ?_
          refine va_get (D := (dC, dI)) (ci := 12) (v := .int (nI (a + 1))) (C := RX9) (T := TX9) (N := 6) hx hb hts (fun _ h => List.mem_cons_of_mem _ (List.mem_append_left _ (List.mem_append_right _ h))) hown hK hP 0 rfl rfl 4 (by decide) (hts (.fieldLink RX9 37 "KnotHouse$Reader" "at" "I") (by decide +kernel)) (fun _ h9 => h9) rfl dgX9_readVisit_93 ?_
          refine va_bald hx hb hK hP 1 1 rfl rfl (vp_in_nI (n := a + 1) (N := 400) (by omega) (by decide)) dgX9_readVisit_96 ?_
          refine ow_topi (y := tp (a + 1)) (congrArg tp (nI_clamp (n := a + 1) (Nat.lt_trans (m := 400) (by omega) (by decide)))) ?_
          refine lv_bipush (v := 48) hx hb dgX9_readVisit_97 (by decide) ?_
          refine lv_isub hx hb dgX9_readVisit_99 ?_
          refine va_put (D := (dC, dI)) (ci := 12) (v := .int ((tp (a + 1)) - 48)) (ty := .int) (C := RX9) (T := TX9) (N := 6) hx hb hts (fun _ h => List.mem_cons_of_mem _ (List.mem_append_left _ (List.mem_append_right _ h))) tyX9 tyX9_ok nmX9 hown hK hP hD hS 0 rfl rfl 5 (by decide) (hts (.fieldLink RX9 63 "KnotHouse$Reader" "name" "I") (by decide +kernel)) (fun _ h9 => h9) rfl (by decide +kernel) rfl rfl (Nat.le_of_ble_eq_true rfl) dgX9_readVisit_100 (fun H locs hP hD hS => ?_)
          have hP : va_P (dC, dI) vwCl [(aR, .inr (12, [.int (nI n), .ref (rx 0), .ref (rx 1), .ref (rx 2), .int (nI (a + 1)), .int ((tp (a + 1)) - 48)])), ((rx 0), .inl (cB, 400, .inl tp))] H := hP
          have hD : va_D A [(aR, .inr (12, [.int (nI n), .ref (rx 0), .ref (rx 1), .ref (rx 2), .int (nI (a + 1)), .int ((tp (a + 1)) - 48)])), ((rx 0), .inl (cB, 400, .inl tp))] := hD
          refine lv_aload_n hx hb dgX9_readVisit_103 rfl (lv_at hl 0 rfl) ?_
          refine lv_dup hx hb dgX9_readVisit_104 rfl ?_
          refine va_get (D := (dC, dI)) (ci := 12) (v := .int (nI (a + 1))) (C := RX9) (T := TX9) (N := 6) hx hb hts (fun _ h => List.mem_cons_of_mem _ (List.mem_append_left _ (List.mem_append_right _ h))) hown hK hP 0 rfl rfl 4 (by decide) (hts (.fieldLink RX9 37 "KnotHouse$Reader" "at" "I") (by decide +kernel)) (fun _ h9 => h9) rfl dgX9_readVisit_105 ?_
          refine lv_iconst (v := 1) hx hb dgX9_readVisit_108 (by decide) ?_
          refine lv_iadd hx hb dgX9_readVisit_109 ?_
          refine ow_topi (y := nI (a + 1 + 1)) (nI_1 (a + 1)) ?_
          refine va_put (D := (dC, dI)) (ci := 12) (v := .int (nI (a + 1 + 1))) (ty := .int) (C := RX9) (T := TX9) (N := 6) hx hb hts (fun _ h => List.mem_cons_of_mem _ (List.mem_append_left _ (List.mem_append_right _ h))) tyX9 tyX9_ok nmX9 hown hK hP hD hS 0 rfl rfl 4 (by decide) (hts (.fieldLink RX9 37 "KnotHouse$Reader" "at" "I") (by decide +kernel)) (fun _ h9 => h9) rfl (by decide +kernel) rfl rfl (Nat.le_of_ble_eq_true rfl) dgX9_readVisit_110 (fun H locs hP hD hS => ?_)
          have hP : va_P (dC, dI) vwCl [(aR, .inr (12, [.int (nI n), .ref (rx 0), .ref (rx 1), .ref (rx 2), .int (nI (a + 1 + 1)), .int ((tp (a + 1)) - 48)])), ((rx 0), .inl (cB, 400, .inl tp))] H := hP
          have hD : va_D A [(aR, .inr (12, [.int (nI n), .ref (rx 0), .ref (rx 1), .ref (rx 2), .int (nI (a + 1 + 1)), .int ((tp (a + 1)) - 48)])), ((rx 0), .inl (cB, 400, .inl tp))] := hD
          refine lv_aload_n hx hb dgX9_readVisit_113 rfl (lv_at hl 0 rfl) ?_
          refine va_get (D := (dC, dI)) (ci := 12) (v := .int (nI (a + 1 + 1))) (C := RX9) (T := TX9) (N := 6) hx hb hts (fun _ h => List.mem_cons_of_mem _ (List.mem_append_left _ (List.mem_append_right _ h))) hown hK hP 0 rfl rfl 4 (by decide) (hts (.fieldLink RX9 37 "KnotHouse$Reader" "at" "I") (by decide +kernel)) (fun _ h9 => h9) rfl dgX9_readVisit_114 ?_
          refine lv_aload_n hx hb dgX9_readVisit_117 rfl (lv_at hl 0 rfl) ?_
          refine va_get (D := (dC, dI)) (ci := 12) (v := .int (nI n)) (C := RX9) (T := TX9) (N := 6) hx hb hts (fun _ h => List.mem_cons_of_mem _ (List.mem_append_left _ (List.mem_append_right _ h))) hown hK hP 0 rfl rfl 0 (by decide) (hts (.fieldLink RX9 22 "KnotHouse$Reader" "length" "I") (by decide +kernel)) (fun _ h9 => h9) rfl dgX9_readVisit_118 ?_
          rcases Nat.lt_or_ge (a + 1 + 1) n with h4 | h4
          · refine lv_icmp_ge (tgt := 186) hx hb dgX9_readVisit_121 (by decide) (fun c9 => absurd c9 (nI_ge (a := a + 1 + 1) (b := n) h4 (by omega))) (fun _ => ?_)
            refine lv_aload_n hx hb dgX9_readVisit_124 rfl (lv_at hl 0 rfl) ?_
            refine va_get (D := (dC, dI)) (ci := 12) (v := .ref (rx 0)) (C := RX9) (T := TX9) (N := 6) hx hb hts (fun _ h => List.mem_cons_of_mem _ (List.mem_append_left _ (List.mem_append_right _ h))) hown hK hP 0 rfl rfl 1 (by decide) (hts (.fieldLink RX9 9 "KnotHouse$Reader" "tape" "[B") (by decide +kernel)) (fun _ h9 => h9) rfl dgX9_readVisit_125 ?_
            refine lv_aload_n hx hb dgX9_readVisit_128 rfl (lv_at hl 0 rfl) ?_
            refine va_get (D := (dC, dI)) (ci := 12) (v := .int (nI (a + 1 + 1))) (C := RX9) (T := TX9) (N := 6) hx hb hts (fun _ h => List.mem_cons_of_mem _ (List.mem_append_left _ (List.mem_append_right _ h))) hown hK hP 0 rfl rfl 4 (by decide) (hts (.fieldLink RX9 37 "KnotHouse$Reader" "at" "I") (by decide +kernel)) (fun _ h9 => h9) rfl dgX9_readVisit_129 ?_
            refine va_bald hx hb hK hP 1 1 rfl rfl (vp_in_nI (n := a + 1 + 1) (N := 400) (by omega) (by decide)) dgX9_readVisit_132 ?_
            refine ow_topi (y := tp (a + 1 + 1)) (congrArg tp (nI_clamp (n := a + 1 + 1) (Nat.lt_trans (m := 400) (by omega) (by decide)))) ?_
            refine lv_bipush (v := 48) hx hb dgX9_readVisit_133 (by decide) ?_
            rcases Decidable.em (tp (a + 1 + 1) < 48) with h5 | h5
            · rw [if_neg (fun h9 => Int32.not_lt.mpr h9.2.1 h5)] at hq
              refine lv_icmp_lt (tgt := 186) hx hb dgX9_readVisit_135 (by decide) (fun _ => ?_) (fun c9 => absurd (h5) c9)
              exact K186 (a + 1 + 1) (tp (a + 1) - 48) (by omega) hq H locs ls hP hD hS (lv_sub hl [0] rfl)
            · refine lv_icmp_lt (tgt := 186) hx hb dgX9_readVisit_135 (by decide) (fun c9 => absurd c9 (h5)) (fun _ => ?_)
              refine lv_aload_n hx hb dgX9_readVisit_138 rfl (lv_at hl 0 rfl) ?_
              refine va_get (D := (dC, dI)) (ci := 12) (v := .ref (rx 0)) (C := RX9) (T := TX9) (N := 6) hx hb hts (fun _ h => List.mem_cons_of_mem _ (List.mem_append_left _ (List.mem_append_right _ h))) hown hK hP 0 rfl rfl 1 (by decide) (hts (.fieldLink RX9 9 "KnotHouse$Reader" "tape" "[B") (by decide +kernel)) (fun _ h9 => h9) rfl dgX9_readVisit_139 ?_
              refine lv_aload_n hx hb dgX9_readVisit_142 rfl (lv_at hl 0 rfl) ?_
              refine va_get (D := (dC, dI)) (ci := 12) (v := .int (nI (a + 1 + 1))) (C := RX9) (T := TX9) (N := 6) hx hb hts (fun _ h => List.mem_cons_of_mem _ (List.mem_append_left _ (List.mem_append_right _ h))) hown hK hP 0 rfl rfl 4 (by decide) (hts (.fieldLink RX9 37 "KnotHouse$Reader" "at" "I") (by decide +kernel)) (fun _ h9 => h9) rfl dgX9_readVisit_143 ?_
              refine va_bald hx hb hK hP 1 1 rfl rfl (vp_in_nI (n := a + 1 + 1) (N := 400) (by omega) (by decide)) dgX9_readVisit_146 ?_
              refine ow_topi (y := tp (a + 1 + 1)) (congrArg tp (nI_clamp (n := a + 1 + 1) (Nat.lt_trans (m := 400) (by omega) (by decide)))) ?_
              refine lv_bipush (v := 57) hx hb dgX9_readVisit_147 (by decide) ?_
              rcases Decidable.em (57 < tp (a + 1 + 1)) with h6 | h6
              · rw [if_neg (fun h9 => Int32.not_lt.mpr h9.2.2 h6)] at hq
                refine lv_icmp_gt (tgt := 186) hx hb dgX9_readVisit_149 (by decide) (fun _ => ?_) (fun c9 => absurd (h6) c9)
                exact K186 (a + 1 + 1) (tp (a + 1) - 48) (by omega) hq H locs ls hP hD hS (lv_sub hl [0] rfl)
              · rw [if_pos ⟨h4, Int32.not_lt.mp h5, Int32.not_lt.mp h6⟩] at hq
                refine lv_icmp_gt (tgt := 186) hx hb dgX9_readVisit_149 (by decide) (fun c9 => absurd c9 (h6)) (fun _ => ?_)
                refine lv_aload_n hx hb dgX9_readVisit_152 rfl (lv_at hl 0 rfl) ?_
                refine lv_bipush (v := 10) hx hb dgX9_readVisit_153 (by decide) ?_
                refine lv_aload_n hx hb dgX9_readVisit_155 rfl (lv_at hl 0 rfl) ?_
                refine va_get (D := (dC, dI)) (ci := 12) (v := .int ((tp (a + 1)) - 48)) (C := RX9) (T := TX9) (N := 6) hx hb hts (fun _ h => List.mem_cons_of_mem _ (List.mem_append_left _ (List.mem_append_right _ h))) hown hK hP 0 rfl rfl 5 (by decide) (hts (.fieldLink RX9 63 "KnotHouse$Reader" "name" "I") (by decide +kernel)) (fun _ h9 => h9) rfl dgX9_readVisit_156 ?_
                refine lv_imul hx hb dgX9_readVisit_159 ?_
                refine lv_aload_n hx hb dgX9_readVisit_160 rfl (lv_at hl 0 rfl) ?_
                refine va_get (D := (dC, dI)) (ci := 12) (v := .ref (rx 0)) (C := RX9) (T := TX9) (N := 6) hx hb hts (fun _ h => List.mem_cons_of_mem _ (List.mem_append_left _ (List.mem_append_right _ h))) hown hK hP 0 rfl rfl 1 (by decide) (hts (.fieldLink RX9 9 "KnotHouse$Reader" "tape" "[B") (by decide +kernel)) (fun _ h9 => h9) rfl dgX9_readVisit_161 ?_
                refine lv_aload_n hx hb dgX9_readVisit_164 rfl (lv_at hl 0 rfl) ?_
                refine va_get (D := (dC, dI)) (ci := 12) (v := .int (nI (a + 1 + 1))) (C := RX9) (T := TX9) (N := 6) hx hb hts (fun _ h => List.mem_cons_of_mem _ (List.mem_append_left _ (List.mem_append_right _ h))) hown hK hP 0 rfl rfl 4 (by decide) (hts (.fieldLink RX9 37 "KnotHouse$Reader" "at" "I") (by decide +kernel)) (fun _ h9 => h9) rfl dgX9_readVisit_165 ?_
                refine va_bald hx hb hK hP 1 1 rfl rfl (vp_in_nI (n := a + 1 + 1) (N := 400) (by omega) (by decide)) dgX9_readVisit_168 ?_
                refine ow_topi (y := tp (a + 1 + 1)) (congrArg tp (nI_clamp (n := a + 1 + 1) (Nat.lt_trans (m := 400) (by omega) (by decide)))) ?_
                refine lv_iadd hx hb dgX9_readVisit_169 ?_
                refine lv_bipush (v := 48) hx hb dgX9_readVisit_170 (by decide) ?_
                refine lv_isub hx hb dgX9_readVisit_172 ?_
                refine va_put (D := (dC, dI)) (ci := 12) (v := .int (((10 * ((tp (a + 1)) - 48)) + (tp (a + 1 + 1))) - 48)) (ty := .int) (C := RX9) (T := TX9) (N := 6) hx hb hts (fun _ h => List.mem_cons_of_mem _ (List.mem_append_left _ (List.mem_append_right _ h))) tyX9 tyX9_ok nmX9 hown hK hP hD hS 0 rfl rfl 5 (by decide) (hts (.fieldLink RX9 63 "KnotHouse$Reader" "name" "I") (by decide +kernel)) (fun _ h9 => h9) rfl (by decide +kernel) rfl rfl (Nat.le_of_ble_eq_true rfl) dgX9_readVisit_173 (fun H locs hP hD hS => ?_)
                have hP : va_P (dC, dI) vwCl [(aR, .inr (12, [.int (nI n), .ref (rx 0), .ref (rx 1), .ref (rx 2), .int (nI (a + 1 + 1)), .int (((10 * ((tp (a + 1)) - 48)) + (tp (a + 1 + 1))) - 48)])), ((rx 0), .inl (cB, 400, .inl tp))] H := hP
                have hD : va_D A [(aR, .inr (12, [.int (nI n), .ref (rx 0), .ref (rx 1), .ref (rx 2), .int (nI (a + 1 + 1)), .int (((10 * ((tp (a + 1)) - 48)) + (tp (a + 1 + 1))) - 48)])), ((rx 0), .inl (cB, 400, .inl tp))] := hD
                refine lv_aload_n hx hb dgX9_readVisit_176 rfl (lv_at hl 0 rfl) ?_
                refine lv_dup hx hb dgX9_readVisit_177 rfl ?_
                refine va_get (D := (dC, dI)) (ci := 12) (v := .int (nI (a + 1 + 1))) (C := RX9) (T := TX9) (N := 6) hx hb hts (fun _ h => List.mem_cons_of_mem _ (List.mem_append_left _ (List.mem_append_right _ h))) hown hK hP 0 rfl rfl 4 (by decide) (hts (.fieldLink RX9 37 "KnotHouse$Reader" "at" "I") (by decide +kernel)) (fun _ h9 => h9) rfl dgX9_readVisit_178 ?_
                refine lv_iconst (v := 1) hx hb dgX9_readVisit_181 (by decide) ?_
                refine lv_iadd hx hb dgX9_readVisit_182 ?_
                refine ow_topi (y := nI (a + 1 + 1 + 1)) (nI_1 (a + 1 + 1)) ?_
                refine va_put (D := (dC, dI)) (ci := 12) (v := .int (nI (a + 1 + 1 + 1))) (ty := .int) (C := RX9) (T := TX9) (N := 6) hx hb hts (fun _ h => List.mem_cons_of_mem _ (List.mem_append_left _ (List.mem_append_right _ h))) tyX9 tyX9_ok nmX9 hown hK hP hD hS 0 rfl rfl 4 (by decide) (hts (.fieldLink RX9 37 "KnotHouse$Reader" "at" "I") (by decide +kernel)) (fun _ h9 => h9) rfl (by decide +kernel) rfl rfl (Nat.le_of_ble_eq_true rfl) dgX9_readVisit_183 (fun H locs hP hD hS => ?_)
                have hP : va_P (dC, dI) vwCl [(aR, .inr (12, [.int (nI n), .ref (rx 0), .ref (rx 1), .ref (rx 2), .int (nI (a + 1 + 1 + 1)), .int (((10 * ((tp (a + 1)) - 48)) + (tp (a + 1 + 1))) - 48)])), ((rx 0), .inl (cB, 400, .inl tp))] H := hP
                have hD : va_D A [(aR, .inr (12, [.int (nI n), .ref (rx 0), .ref (rx 1), .ref (rx 2), .int (nI (a + 1 + 1 + 1)), .int (((10 * ((tp (a + 1)) - 48)) + (tp (a + 1 + 1))) - 48)])), ((rx 0), .inl (cB, 400, .inl tp))] := hD
                exact K186 (a + 1 + 1 + 1) (10 * (tp (a + 1) - 48) + tp (a + 1 + 1) - 48) (by omega) hq H locs ls hP hD hS (lv_sub hl [0] rfl)
          · rw [if_neg (fun h9 => absurd h9.1 (Nat.not_lt.mpr h4))] at hq
            refine lv_icmp_ge (tgt := 186) hx hb dgX9_readVisit_121 (by decide) (fun _ => ?_) (fun c9 => absurd (nI_le (a := n) (b := a + 1 + 1) h4 (by omega)) c9)
            exact K186 (a + 1 + 1) (tp (a + 1) - 48) (by omega) hq H locs ls hP hD hS (lv_sub hl [0] rfl)
        · rw [if_neg (fun h9 => h3 h9.2.2)] at hq
          refine lv_icmp_le (tgt := 87) hx hb dgX9_readVisit_79 (by decide) (fun c9 => absurd c9 (h3)) (fun _ => ?_)
          refine lv_aload_n hx hb dgX9_readVisit_82 rfl (lv_at hl 0 rfl) ?_
          refine va_get (D := (dC, dI)) (ci := 12) (v := .int (nI (a + 1))) (C := RX9) (T := TX9) (N := 6) hx hb hts (fun _ h => List.mem_cons_of_mem _ (List.mem_append_left _ (List.mem_append_right _ h))) hown hK hP 0 rfl rfl 4 (by decide) (hts (.fieldLink RX9 37 "KnotHouse$Reader" "at" "I") (by decide +kernel)) (fun _ h9 => h9) rfl dgX9_readVisit_83 ?_
          have hP : va_P (dC, dI) vwCl [(aR, .inr (12, [.int (nI n), .ref (rx 0), .ref (rx 1), .ref (rx 2), .int (nI (rv_0 tp n a nm).2.1), .int (rv_0 tp n a nm).2.2])), ((rx 0), .inl (cB, 400, .inl tp))] H := by rw [hq]; exact hP
          have hD : va_D A [(aR, .inr (12, [.int (nI n), .ref (rx 0), .ref (rx 1), .ref (rx 2), .int (nI (rv_0 tp n a nm).2.1), .int (rv_0 tp n a nm).2.2])), ((rx 0), .inl (cB, 400, .inl tp))] := by rw [hq]; exact hD
          rw [hQQ]
          exact W.iret (v := (nI (a + 1))) hx hb hr (fun t ht hW => ⟨⟨(nI (a + 1)), (), rfl, by rw [hq]; rfl, by rw [ht]; exact hP, hD⟩, hS.F ht⟩) hS.2.2 dgX9_readVisit_86
    · rw [if_neg (fun h9 => absurd h9.1 (Nat.not_lt.mpr h1))] at hq
      refine lv_icmp_ge (tgt := 82) hx hb dgX9_readVisit_51 (by decide) (fun _ => ?_) (fun c9 => absurd (nI_le (a := n) (b := a + 1) h1 (by omega)) c9)
      refine lv_aload_n hx hb dgX9_readVisit_82 rfl (lv_at hl 0 rfl) ?_
      refine va_get (D := (dC, dI)) (ci := 12) (v := .int (nI (a + 1))) (C := RX9) (T := TX9) (N := 6) hx hb hts (fun _ h => List.mem_cons_of_mem _ (List.mem_append_left _ (List.mem_append_right _ h))) hown hK hP 0 rfl rfl 4 (by decide) (hts (.fieldLink RX9 37 "KnotHouse$Reader" "at" "I") (by decide +kernel)) (fun _ h9 => h9) rfl dgX9_readVisit_83 ?_
      have hP : va_P (dC, dI) vwCl [(aR, .inr (12, [.int (nI n), .ref (rx 0), .ref (rx 1), .ref (rx 2), .int (nI (rv_0 tp n a nm).2.1), .int (rv_0 tp n a nm).2.2])), ((rx 0), .inl (cB, 400, .inl tp))] H := by rw [hq]; exact hP
      have hD : va_D A [(aR, .inr (12, [.int (nI n), .ref (rx 0), .ref (rx 1), .ref (rx 2), .int (nI (rv_0 tp n a nm).2.1), .int (rv_0 tp n a nm).2.2])), ((rx 0), .inl (cB, 400, .inl tp))] := by rw [hq]; exact hD
      rw [hQQ]
      exact W.iret (v := (nI (a + 1))) hx hb hr (fun t ht hW => ⟨⟨(nI (a + 1)), (), rfl, by rw [hq]; rfl, by rw [ht]; exact hP, hD⟩, hS.F ht⟩) hS.2.2 dgX9_readVisit_86
  refine lv_aload_n hx hb dgX9_readVisit_0 rfl (lv_at hl 0 rfl) ?_
  refine va_get (D := (dC, dI)) (ci := 12) (v := .ref (rx 0)) (C := RX9) (T := TX9) (N := 6) hx hb hts (fun _ h => List.mem_cons_of_mem _ (List.mem_append_left _ (List.mem_append_right _ h))) hown hK hP 0 rfl rfl 1 (by decide) (hts (.fieldLink RX9 9 "KnotHouse$Reader" "tape" "[B") (by decide +kernel)) (fun _ h9 => h9) rfl dgX9_readVisit_1 ?_
  refine lv_aload_n hx hb dgX9_readVisit_4 rfl (lv_at hl 0 rfl) ?_
  refine va_get (D := (dC, dI)) (ci := 12) (v := .int (nI a)) (C := RX9) (T := TX9) (N := 6) hx hb hts (fun _ h => List.mem_cons_of_mem _ (List.mem_append_left _ (List.mem_append_right _ h))) hown hK hP 0 rfl rfl 4 (by decide) (hts (.fieldLink RX9 37 "KnotHouse$Reader" "at" "I") (by decide +kernel)) (fun _ h9 => h9) rfl dgX9_readVisit_5 ?_
  refine va_bald hx hb hK hP 1 1 rfl rfl (vp_in_nI (n := a) (N := 400) (by omega) (by decide)) dgX9_readVisit_8 ?_
  refine ow_topi (y := tp a) (congrArg tp (nI_clamp (n := a) (Nat.lt_trans (m := 400) (by omega) (by decide)))) ?_
  refine lv_bipush (v := 111) hx hb dgX9_readVisit_9 (by decide) ?_
  rcases Decidable.em (tp a = 111) with h1 | h1
  · refine lv_icmp_eq (tgt := 33) hx hb dgX9_readVisit_11 (by decide) (fun _ => ?_) (fun c9 => absurd (h1) c9)
    exact K33 (if_pos (Or.inl h1)) H locs ls hP hD hS (lv_sub hl [0] rfl)
  · refine lv_icmp_eq (tgt := 33) hx hb dgX9_readVisit_11 (by decide) (fun c9 => absurd c9 (h1)) (fun _ => ?_)
    refine lv_aload_n hx hb dgX9_readVisit_14 rfl (lv_at hl 0 rfl) ?_
    refine va_get (D := (dC, dI)) (ci := 12) (v := .ref (rx 0)) (C := RX9) (T := TX9) (N := 6) hx hb hts (fun _ h => List.mem_cons_of_mem _ (List.mem_append_left _ (List.mem_append_right _ h))) hown hK hP 0 rfl rfl 1 (by decide) (hts (.fieldLink RX9 9 "KnotHouse$Reader" "tape" "[B") (by decide +kernel)) (fun _ h9 => h9) rfl dgX9_readVisit_15 ?_
    refine lv_aload_n hx hb dgX9_readVisit_18 rfl (lv_at hl 0 rfl) ?_
    refine va_get (D := (dC, dI)) (ci := 12) (v := .int (nI a)) (C := RX9) (T := TX9) (N := 6) hx hb hts (fun _ h => List.mem_cons_of_mem _ (List.mem_append_left _ (List.mem_append_right _ h))) hown hK hP 0 rfl rfl 4 (by decide) (hts (.fieldLink RX9 37 "KnotHouse$Reader" "at" "I") (by decide +kernel)) (fun _ h9 => h9) rfl dgX9_readVisit_19 ?_
    refine va_bald hx hb hK hP 1 1 rfl rfl (vp_in_nI (n := a) (N := 400) (by omega) (by decide)) dgX9_readVisit_22 ?_
    refine ow_topi (y := tp a) (congrArg tp (nI_clamp (n := a) (Nat.lt_trans (m := 400) (by omega) (by decide)))) ?_
    refine lv_bipush (v := 117) hx hb dgX9_readVisit_23 (by decide) ?_
    rcases Decidable.em (tp a = 117) with h2 | h2
    · refine lv_icmp_eq (tgt := 33) hx hb dgX9_readVisit_25 (by decide) (fun _ => ?_) (fun c9 => absurd (h2) c9)
      exact K33 (if_pos (Or.inr h2)) H locs ls hP hD hS (lv_sub hl [0] rfl)
    · have hq : (rv_0 tp n a nm) = (some a, a, nm) := if_neg (fun h9 => h9.elim h1 h2)
      refine lv_icmp_eq (tgt := 33) hx hb dgX9_readVisit_25 (by decide) (fun c9 => absurd c9 (h2)) (fun _ => ?_)
      refine lv_aload_n hx hb dgX9_readVisit_28 rfl (lv_at hl 0 rfl) ?_
      refine va_get (D := (dC, dI)) (ci := 12) (v := .int (nI a)) (C := RX9) (T := TX9) (N := 6) hx hb hts (fun _ h => List.mem_cons_of_mem _ (List.mem_append_left _ (List.mem_append_right _ h))) hown hK hP 0 rfl rfl 4 (by decide) (hts (.fieldLink RX9 37 "KnotHouse$Reader" "at" "I") (by decide +kernel)) (fun _ h9 => h9) rfl dgX9_readVisit_29 ?_
      have hP : va_P (dC, dI) vwCl [(aR, .inr (12, [.int (nI n), .ref (rx 0), .ref (rx 1), .ref (rx 2), .int (nI (rv_0 tp n a nm).2.1), .int (rv_0 tp n a nm).2.2])), ((rx 0), .inl (cB, 400, .inl tp))] H := by rw [hq]; exact hP
      have hD : va_D A [(aR, .inr (12, [.int (nI n), .ref (rx 0), .ref (rx 1), .ref (rx 2), .int (nI (rv_0 tp n a nm).2.1), .int (rv_0 tp n a nm).2.2])), ((rx 0), .inl (cB, 400, .inl tp))] := by rw [hq]; exact hD
      rw [hQQ]
      exact W.iret (v := (nI a)) hx hb hr (fun t ht hW => ⟨⟨(nI a), (), rfl, by rw [hq]; rfl, by rw [ht]; exact hP, hD⟩, hS.F ht⟩) hS.2.2 dgX9_readVisit_32
theorem dgX9_enter_0 : decode cX9_enter 0 = .ok (.aload_n 0, 1) := by decide +kernel
theorem dgX9_enter_1 : decode cX9_enter 1 = .ok (.getfield 9, 3) := by decide +kernel
theorem dgX9_enter_4 : decode cX9_enter 4 = .ok (.aload_n 0, 1) := by decide +kernel
theorem dgX9_enter_5 : decode cX9_enter 5 = .ok (.getfield 37, 3) := by decide +kernel
theorem dgX9_enter_8 : decode cX9_enter 8 = .ok (.iconst 1, 1) := by decide +kernel
theorem dgX9_enter_9 : decode cX9_enter 9 = .ok (.isub, 1) := by decide +kernel
theorem dgX9_enter_10 : decode cX9_enter 10 = .ok (.baload, 1) := by decide +kernel
theorem dgX9_enter_11 : decode cX9_enter 11 = .ok (.bipush 43, 2) := by decide +kernel
theorem dgX9_enter_13 : decode cX9_enter 13 = .ok (.if_icmp .ne 7, 3) := by decide +kernel
theorem dgX9_enter_16 : decode cX9_enter 16 = .ok (.iconst 1, 1) := by decide +kernel
theorem dgX9_enter_17 : decode cX9_enter 17 = .ok (.goto 4, 3) := by decide +kernel
theorem dgX9_enter_20 : decode cX9_enter 20 = .ok (.iconst (-1), 1) := by decide +kernel
theorem dgX9_enter_21 : decode cX9_enter 21 = .ok (.istore_n 3, 1) := by decide +kernel
theorem dgX9_enter_22 : decode cX9_enter 22 = .ok (.aload_n 0, 1) := by decide +kernel
theorem dgX9_enter_23 : decode cX9_enter 23 = .ok (.getfield 15, 3) := by decide +kernel
theorem dgX9_enter_26 : decode cX9_enter 26 = .ok (.aload_n 0, 1) := by decide +kernel
theorem dgX9_enter_27 : decode cX9_enter 27 = .ok (.getfield 63, 3) := by decide +kernel
theorem dgX9_enter_30 : decode cX9_enter 30 = .ok (.iaload, 1) := by decide +kernel
theorem dgX9_enter_31 : decode cX9_enter 31 = .ok (.istore 4, 2) := by decide +kernel
theorem dgX9_enter_33 : decode cX9_enter 33 = .ok (.iload 4, 2) := by decide +kernel
theorem dgX9_enter_35 : decode cX9_enter 35 = .ok (.iconst (-1), 1) := by decide +kernel
theorem dgX9_enter_36 : decode cX9_enter 36 = .ok (.if_icmp .ne 49, 3) := by decide +kernel
theorem dgX9_enter_39 : decode cX9_enter 39 = .ok (.aload_n 1, 1) := by decide +kernel
theorem dgX9_enter_40 : decode cX9_enter 40 = .ok (.getfield 66, 3) := by decide +kernel
theorem dgX9_enter_43 : decode cX9_enter 43 = .ok (.bipush 12, 2) := by decide +kernel
theorem dgX9_enter_45 : decode cX9_enter 45 = .ok (.if_icmp .lt 5, 3) := by decide +kernel
theorem dgX9_enter_48 : decode cX9_enter 48 = .ok (.iconst (-1), 1) := by decide +kernel
theorem dgX9_enter_49 : decode cX9_enter 49 = .ok (.ireturn, 1) := by decide +kernel
theorem dgX9_enter_50 : decode cX9_enter 50 = .ok (.aload_n 1, 1) := by decide +kernel
theorem dgX9_enter_51 : decode cX9_enter 51 = .ok (.getfield 66, 3) := by decide +kernel
theorem dgX9_enter_54 : decode cX9_enter 54 = .ok (.istore 4, 2) := by decide +kernel
theorem dgX9_enter_56 : decode cX9_enter 56 = .ok (.aload_n 1, 1) := by decide +kernel
theorem dgX9_enter_57 : decode cX9_enter 57 = .ok (.dup, 1) := by decide +kernel
theorem dgX9_enter_58 : decode cX9_enter 58 = .ok (.getfield 66, 3) := by decide +kernel
theorem dgX9_enter_61 : decode cX9_enter 61 = .ok (.iconst 1, 1) := by decide +kernel
theorem dgX9_enter_62 : decode cX9_enter 62 = .ok (.iadd, 1) := by decide +kernel
theorem dgX9_enter_63 : decode cX9_enter 63 = .ok (.putfield 66, 3) := by decide +kernel
theorem dgX9_enter_66 : decode cX9_enter 66 = .ok (.aload_n 0, 1) := by decide +kernel
theorem dgX9_enter_67 : decode cX9_enter 67 = .ok (.getfield 15, 3) := by decide +kernel
theorem dgX9_enter_70 : decode cX9_enter 70 = .ok (.aload_n 0, 1) := by decide +kernel
theorem dgX9_enter_71 : decode cX9_enter 71 = .ok (.getfield 63, 3) := by decide +kernel
theorem dgX9_enter_74 : decode cX9_enter 74 = .ok (.iload 4, 2) := by decide +kernel
theorem dgX9_enter_76 : decode cX9_enter 76 = .ok (.iastore, 1) := by decide +kernel
theorem dgX9_enter_77 : decode cX9_enter 77 = .ok (.aload_n 1, 1) := by decide +kernel
theorem dgX9_enter_78 : decode cX9_enter 78 = .ok (.getfield 69, 3) := by decide +kernel
theorem dgX9_enter_81 : decode cX9_enter 81 = .ok (.iload 4, 2) := by decide +kernel
theorem dgX9_enter_83 : decode cX9_enter 83 = .ok (.iload_n 3, 1) := by decide +kernel
theorem dgX9_enter_84 : decode cX9_enter 84 = .ok (.iastore, 1) := by decide +kernel
theorem dgX9_enter_85 : decode cX9_enter 85 = .ok (.iconst 2, 1) := by decide +kernel
theorem dgX9_enter_86 : decode cX9_enter 86 = .ok (.iload 4, 2) := by decide +kernel
theorem dgX9_enter_88 : decode cX9_enter 88 = .ok (.imul, 1) := by decide +kernel
theorem dgX9_enter_89 : decode cX9_enter 89 = .ok (.aload_n 0, 1) := by decide +kernel
theorem dgX9_enter_90 : decode cX9_enter 90 = .ok (.getfield 9, 3) := by decide +kernel
theorem dgX9_enter_93 : decode cX9_enter 93 = .ok (.iload_n 2, 1) := by decide +kernel
theorem dgX9_enter_94 : decode cX9_enter 94 = .ok (.baload, 1) := by decide +kernel
theorem dgX9_enter_95 : decode cX9_enter 95 = .ok (.bipush 117, 2) := by decide +kernel
theorem dgX9_enter_97 : decode cX9_enter 97 = .ok (.if_icmp .ne 7, 3) := by decide +kernel
theorem dgX9_enter_100 : decode cX9_enter 100 = .ok (.iconst 1, 1) := by decide +kernel
theorem dgX9_enter_101 : decode cX9_enter 101 = .ok (.goto 4, 3) := by decide +kernel
theorem dgX9_enter_104 : decode cX9_enter 104 = .ok (.iconst 0, 1) := by decide +kernel
theorem dgX9_enter_105 : decode cX9_enter 105 = .ok (.iadd, 1) := by decide +kernel
theorem dgX9_enter_106 : decode cX9_enter 106 = .ok (.istore 5, 2) := by decide +kernel
theorem dgX9_enter_108 : decode cX9_enter 108 = .ok (.aload_n 0, 1) := by decide +kernel
theorem dgX9_enter_109 : decode cX9_enter 109 = .ok (.getfield 19, 3) := by decide +kernel
theorem dgX9_enter_112 : decode cX9_enter 112 = .ok (.iload 5, 2) := by decide +kernel
theorem dgX9_enter_114 : decode cX9_enter 114 = .ok (.iaload, 1) := by decide +kernel
theorem dgX9_enter_115 : decode cX9_enter 115 = .ok (.iconst (-1), 1) := by decide +kernel
theorem dgX9_enter_116 : decode cX9_enter 116 = .ok (.if_icmp .ne 14, 3) := by decide +kernel
theorem dgX9_enter_119 : decode cX9_enter 119 = .ok (.aload_n 1, 1) := by decide +kernel
theorem dgX9_enter_120 : decode cX9_enter 120 = .ok (.getfield 69, 3) := by decide +kernel
theorem dgX9_enter_123 : decode cX9_enter 123 = .ok (.iload 4, 2) := by decide +kernel
theorem dgX9_enter_125 : decode cX9_enter 125 = .ok (.iaload, 1) := by decide +kernel
theorem dgX9_enter_126 : decode cX9_enter 126 = .ok (.iload_n 3, 1) := by decide +kernel
theorem dgX9_enter_127 : decode cX9_enter 127 = .ok (.if_icmp .eq 5, 3) := by decide +kernel
theorem dgX9_enter_130 : decode cX9_enter 130 = .ok (.iconst (-1), 1) := by decide +kernel
theorem dgX9_enter_131 : decode cX9_enter 131 = .ok (.ireturn, 1) := by decide +kernel
theorem dgX9_enter_132 : decode cX9_enter 132 = .ok (.aload_n 0, 1) := by decide +kernel
theorem dgX9_enter_133 : decode cX9_enter 133 = .ok (.getfield 19, 3) := by decide +kernel
theorem dgX9_enter_136 : decode cX9_enter 136 = .ok (.iload 5, 2) := by decide +kernel
theorem dgX9_enter_138 : decode cX9_enter 138 = .ok (.iload_n 2, 1) := by decide +kernel
theorem dgX9_enter_139 : decode cX9_enter 139 = .ok (.iastore, 1) := by decide +kernel
theorem dgX9_enter_140 : decode cX9_enter 140 = .ok (.iload 5, 2) := by decide +kernel
theorem dgX9_enter_142 : decode cX9_enter 142 = .ok (.ireturn, 1) := by decide +kernel
def wg_X9_enter : List Cond := .code yX9_enter cX9_enter 6 (some .int) :: (([.fieldLink RX9 9 "KnotHouse$Reader" "tape" "[B", .fieldLink RX9 37 "KnotHouse$Reader" "at" "I", .fieldLink RX9 15 "KnotHouse$Reader" "crossingOf" "[I", .fieldLink RX9 63 "KnotHouse$Reader" "name" "I", .fieldLink RX9 66 "KnotHouse$Net" "crossings" "I", .fieldLink RX9 69 "KnotHouse$Net" "sign" "[I", .fieldLink RX9 19 "KnotHouse$Reader" "begins" "[I"] ++ wsX90 ++ wsX70) ++ [])
set_option maxHeartbeats 4000000 in
set_option maxRecDepth 100000 in
theorem kg_X9_enter (l : Launch) (dC : Nat → ClassId) (dI : Nat → Nat → Nat) (cI cB cJ cZ : ClassId) (aR : Nat) (rx : Nat → Nat) (x0 : Int32) (tp : Nat → Int32) (a k b : Nat) (ha : 1 ≤ a ∧ a ≤ 400) (hk9 : k < 100) (hb9 : b < 400) (aX : Nat) (nx : Nat → Nat) (x8 x9 x10 : Int32) (Q : ow_ET) (hQ : et_ok Q) (sz : Nat) : Met l yX9_enter wg_X9_enter (({ frames := 0, cells := 0, slots := 0, locals := 0 } : Room)) (va_Pc [.ref aR, .ref aX, .int (nI b)] (fun U => U.heap.size = sz ∧ va_P (dC, dI) vwCl [(aR, .inr (12, [.int x0, .ref (rx 0), .ref (rx 1), .ref (rx 2), .int (nI a), .int (nI k)])), ((rx 0), .inl (cB, 400, .inl tp)), ((rx 1), .inl (cI, 100, .inl Q.2.1)), ((rx 2), .inl (cI, 24, .inl Q.2.2.2)), (aX, .inr (10, [.ref (nx 0), .ref (nx 1), .ref (nx 2), .ref (nx 3), .ref (nx 4), .ref (nx 5), .ref (nx 6), .int (nI Q.1), .int x8, .int x9, .int x10])), ((nx 2), .inl (cI, 12, .inl Q.2.2.1))] U.heap ∧ va_K (dC, dI) vwCl [(cI, .int), (cB, .byte), (cJ, .long), (cZ, .boolean)] U ∧ va_D (fun _ => True) [(aR, .inr (12, [.int x0, .ref (rx 0), .ref (rx 1), .ref (rx 2), .int (nI a), .int (nI k)])), ((rx 0), .inl (cB, 400, .inl tp)), ((rx 1), .inl (cI, 100, .inl Q.2.1)), ((rx 2), .inl (cI, 24, .inl Q.2.2.2)), (aX, .inr (10, [.ref (nx 0), .ref (nx 1), .ref (nx 2), .ref (nx 3), .ref (nx 4), .ref (nx 5), .ref (nx 6), .int (nI Q.1), .int x8, .int x9, .int x10])), ((nx 2), .inl (cI, 12, .inl Q.2.2.1))])) (va_Qi (fun r (g : Unit) => r = onI (et_run tp Q a k b).1) (fun g t => va_P (dC, dI) vwCl [(aR, .inr (12, [.int x0, .ref (rx 0), .ref (rx 1), .ref (rx 2), .int (nI a), .int (nI k)])), ((rx 0), .inl (cB, 400, .inl tp)), ((rx 1), .inl (cI, 100, .inl ((et_run tp Q a k b).2.2.1))), ((rx 2), .inl (cI, 24, .inl ((et_run tp Q a k b).2.2.2.2))), (aX, .inr (10, [.ref (nx 0), .ref (nx 1), .ref (nx 2), .ref (nx 3), .ref (nx 4), .ref (nx 5), .ref (nx 6), .int (nI (et_run tp Q a k b).2.1), .int x8, .int x9, .int x10])), ((nx 2), .inl (cI, 12, .inl ((et_run tp Q a k b).2.2.2.1)))] t.heap ∧ va_D (va_A [(aR, .inr (12, [.int x0, .ref (rx 0), .ref (rx 1), .ref (rx 2), .int (nI a), .int (nI k)])), ((rx 0), .inl (cB, 400, .inl tp)), ((rx 1), .inl (cI, 100, .inl Q.2.1)), ((rx 2), .inl (cI, 24, .inl Q.2.2.2)), (aX, .inr (10, [.ref (nx 0), .ref (nx 1), .ref (nx 2), .ref (nx 3), .ref (nx 4), .ref (nx 5), .ref (nx 6), .int (nI Q.1), .int x8, .int x9, .int x10])), ((nx 2), .inl (cI, 12, .inl Q.2.2.1))] sz) [(aR, .inr (12, [.int x0, .ref (rx 0), .ref (rx 1), .ref (rx 2), .int (nI a), .int (nI k)])), ((rx 0), .inl (cB, 400, .inl tp)), ((rx 1), .inl (cI, 100, .inl ((et_run tp Q a k b).2.2.1))), ((rx 2), .inl (cI, 24, .inl ((et_run tp Q a k b).2.2.2.2))), (aX, .inr (10, [.ref (nx 0), .ref (nx 1), .ref (nx 2), .ref (nx 3), .ref (nx 4), .ref (nx 5), .ref (nx 6), .int (nI (et_run tp Q a k b).2.1), .int x8, .int x9, .int x10])), ((nx 2), .inl (cI, 12, .inl ((et_run tp Q a k b).2.2.2.1)))]) (va_A [(aR, .inr (12, [.int x0, .ref (rx 0), .ref (rx 1), .ref (rx 2), .int (nI a), .int (nI k)])), ((rx 0), .inl (cB, 400, .inl tp)), ((rx 1), .inl (cI, 100, .inl Q.2.1)), ((rx 2), .inl (cI, 24, .inl Q.2.2.2)), (aX, .inr (10, [.ref (nx 0), .ref (nx 1), .ref (nx 2), .ref (nx 3), .ref (nx 4), .ref (nx 5), .ref (nx 6), .int (nI Q.1), .int x8, .int x9, .int x10])), ((nx 2), .inl (cI, 12, .inl Q.2.2.1))] sz)) 0 0 (va_A [(aR, .inr (12, [.int x0, .ref (rx 0), .ref (rx 1), .ref (rx 2), .int (nI a), .int (nI k)])), ((rx 0), .inl (cB, 400, .inl tp)), ((rx 1), .inl (cI, 100, .inl Q.2.1)), ((rx 2), .inl (cI, 24, .inl Q.2.2.2)), (aX, .inr (10, [.ref (nx 0), .ref (nx 1), .ref (nx 2), .ref (nx 3), .ref (nx 4), .ref (nx 5), .ref (nx 6), .int (nI Q.1), .int x8, .int x9, .int x10])), ((nx 2), .inl (cI, 12, .inl Q.2.2.1))] sz) := by
  refine Met.ofW (cc := cX9_enter) (maxL := 6) (ret := (some .int)) (by decide) rfl ?_
  intro p e s m args below meth c s₁ B hml hv
  obtain ⟨rfl, hsz, hP, hK, hD0⟩ := hv
  have hx := B.exec
  have hb := B.bytes
  have hr := B.returns
  have hts := atoms_spec (ws := wg_X9_enter) B.pre
  have hown : s.vm.findClass RX9 = some m.cls := findClass_of_methodNamed B.named
  have hlocks := B.notSynchronized
  subst hsz
  have hD := hD0.self (sz := s.heap.size)
  generalize hAe : va_A [(aR, .inr (12, [.int x0, .ref (rx 0), .ref (rx 1), .ref (rx 2), .int (nI a), .int (nI k)])), ((rx 0), .inl (cB, 400, .inl tp)), ((rx 1), .inl (cI, 100, .inl Q.2.1)), ((rx 2), .inl (cI, 24, .inl Q.2.2.2)), (aX, .inr (10, [.ref (nx 0), .ref (nx 1), .ref (nx 2), .ref (nx 3), .ref (nx 4), .ref (nx 5), .ref (nx 6), .int (nI Q.1), .int x8, .int x9, .int x10])), ((nx 2), .inl (cI, 12, .inl Q.2.2.1))] s.heap.size = A at hD ⊢
  have hA : ∀ q : Nat, s.heap.size ≤ q → A q := fun q h => by rw [← hAe]; exact Or.inr h
  have hS : va_S A s.heap s.heap [] := va_S.rf
  have hP : va_P (dC, dI) vwCl [(aR, .inr (12, [.int x0, .ref (rx 0), .ref (rx 1), .ref (rx 2), .int (nI a), .int (nI k)])), ((rx 0), .inl (cB, 400, .inl tp)), ((rx 1), .inl (cI, 100, .inl Q.2.1)), ((rx 2), .inl (cI, 24, .inl Q.2.2.2)), (aX, .inr (10, [.ref (nx 0), .ref (nx 1), .ref (nx 2), .ref (nx 3), .ref (nx 4), .ref (nx 5), .ref (nx 6), .int (nI Q.1), .int x8, .int x9, .int x10])), ((nx 2), .inl (cI, 12, .inl Q.2.2.1))] s.heap := hP
  have hl := lv_entry ([.ref aR, .ref aX, .int (nI b)]) (n := 6) (Nat.le_of_ble_eq_true rfl)
  rw [lg_entry_eq]
  generalize (lg_sl ([.ref aR, .ref aX, .int (nI b)]) ++ List.replicate (6 - (lg_sl ([.ref aR, .ref aX, .int (nI b)])).length) Slot.unset).toArray = ls at hl ⊢
  have hl : lv_has ls 6 [(0, .ref aR), (1, .ref aX), (2, .int (nI b))] := hl
  refine ow_named (fun QQ hQQ => ?_)
  suffices key9 : ∀ (H : Heap) (locs : List Loc), va_P (dC, dI) vwCl [(aR, .inr (12, [.int x0, .ref (rx 0), .ref (rx 1), .ref (rx 2), .int (nI a), .int (nI k)])), ((rx 0), .inl (cB, 400, .inl tp)), ((rx 1), .inl (cI, 100, .inl Q.2.1)), ((rx 2), .inl (cI, 24, .inl Q.2.2.2)), (aX, .inr (10, [.ref (nx 0), .ref (nx 1), .ref (nx 2), .ref (nx 3), .ref (nx 4), .ref (nx 5), .ref (nx 6), .int (nI Q.1), .int x8, .int x9, .int x10])), ((nx 2), .inl (cI, 12, .inl Q.2.2.1))] H → va_S A s.heap H locs → W p l e ({ frames := 0, cells := 0, slots := 0, locals := 0 } : Room) s m ([.ref aR, .ref aX, .int (nI b)] : List Value).toArray below meth c H locs 0 0 QQ (F0 m 0 ls []) from key9 s.heap [] hP hS
  intro H locs hP hS
  have hc12 := hQ.1
  have K85 : ¬ (Q.2.1 k = -1 ∧ 12 ≤ Q.1) → ∀ (H : Heap) (locs : List Loc) (ls : Array Slot), va_P (dC, dI) vwCl [(aR, .inr (12, [.int x0, .ref (rx 0), .ref (rx 1), .ref (rx 2), .int (nI a), .int (nI k)])), ((rx 0), .inl (cB, 400, .inl tp)), ((rx 1), .inl (cI, 100, .inl ((et_n Q k (et_sg tp a)).2.1))), ((rx 2), .inl (cI, 24, .inl ((et_n Q k (et_sg tp a)).2.2.2))), (aX, .inr (10, [.ref (nx 0), .ref (nx 1), .ref (nx 2), .ref (nx 3), .ref (nx 4), .ref (nx 5), .ref (nx 6), .int (nI (et_n Q k (et_sg tp a)).1), .int x8, .int x9, .int x10])), ((nx 2), .inl (cI, 12, .inl ((et_n Q k (et_sg tp a)).2.2.1)))] H → va_D A [(aR, .inr (12, [.int x0, .ref (rx 0), .ref (rx 1), .ref (rx 2), .int (nI a), .int (nI k)])), ((rx 0), .inl (cB, 400, .inl tp)), ((rx 1), .inl (cI, 100, .inl ((et_n Q k (et_sg tp a)).2.1))), ((rx 2), .inl (cI, 24, .inl ((et_n Q k (et_sg tp a)).2.2.2))), (aX, .inr (10, [.ref (nx 0), .ref (nx 1), .ref (nx 2), .ref (nx 3), .ref (nx 4), .ref (nx 5), .ref (nx 6), .int (nI (et_n Q k (et_sg tp a)).1), .int x8, .int x9, .int x10])), ((nx 2), .inl (cI, 12, .inl ((et_n Q k (et_sg tp a)).2.2.1)))] → va_S A s.heap H locs → lv_has ls 6 [(0, .ref aR), (1, .ref aX), (2, .int (nI b)), (3, .int (et_sg tp a)), (4, .int (nI (et_x Q k)))] → W p l e ({ frames := 0, cells := 0, slots := 0, locals := 0 } : Room) s m ([.ref aR, .ref aX, .int (nI b)] : List Value).toArray below meth c H locs 0 0 QQ (F0 m 85 ls []) := by
    intro hn H locs ls hP hD hS hl
    have hx12 := et_x_lt hQ hk9 hn
    have hbg : (et_n Q k (et_sg tp a)).2.2.2 = Q.2.2.2 := by unfold et_n; split <;> rfl
    refine lv_iconst (v := 2) hx hb dgX9_enter_85 (by decide) ?_
    refine lv_iload hx hb dgX9_enter_86 (lv_at hl 4 rfl) ?_
    refine lv_imul hx hb dgX9_enter_88 ?_
    refine ow_topi (y := nI (2 * (et_x Q k))) (pk_mul 2 (et_x Q k)) ?_
    refine lv_aload_n hx hb dgX9_enter_89 rfl (lv_at hl 0 rfl) ?_
    refine va_get (D := (dC, dI)) (ci := 12) (v := .ref (rx 0)) (C := RX9) (T := TX9) (N := 6) hx hb hts (fun _ h => List.mem_cons_of_mem _ (List.mem_append_left _ (List.mem_append_left _ (List.mem_append_right _ h)))) hown hK hP 0 rfl rfl 1 (by decide) (hts (.fieldLink RX9 9 "KnotHouse$Reader" "tape" "[B") (by decide +kernel)) (fun _ h9 => h9) rfl dgX9_enter_90 ?_
    refine lv_iload_n hx hb dgX9_enter_93 rfl (lv_at hl 2 rfl) ?_
    refine va_bald hx hb hK hP 1 1 rfl rfl (vp_in_nI (n := b) (N := 400) hb9 (by decide)) dgX9_enter_94 ?_
    refine ow_topi (y := tp b) (congrArg tp (nI_clamp (n := b) (Nat.lt_trans (m := 400) hb9 (by decide)))) ?_
    refine lv_bipush (v := 117) hx hb dgX9_enter_95 (by decide) ?_
    have hv24 : (et_v tp Q k b) < 24 := by
      unfold et_v
      split <;> omega
    have K106 : ∀ (H : Heap) (locs : List Loc) (ls : Array Slot), va_P (dC, dI) vwCl [(aR, .inr (12, [.int x0, .ref (rx 0), .ref (rx 1), .ref (rx 2), .int (nI a), .int (nI k)])), ((rx 0), .inl (cB, 400, .inl tp)), ((rx 1), .inl (cI, 100, .inl ((et_n Q k (et_sg tp a)).2.1))), ((rx 2), .inl (cI, 24, .inl ((et_n Q k (et_sg tp a)).2.2.2))), (aX, .inr (10, [.ref (nx 0), .ref (nx 1), .ref (nx 2), .ref (nx 3), .ref (nx 4), .ref (nx 5), .ref (nx 6), .int (nI (et_n Q k (et_sg tp a)).1), .int x8, .int x9, .int x10])), ((nx 2), .inl (cI, 12, .inl ((et_n Q k (et_sg tp a)).2.2.1)))] H → va_D A [(aR, .inr (12, [.int x0, .ref (rx 0), .ref (rx 1), .ref (rx 2), .int (nI a), .int (nI k)])), ((rx 0), .inl (cB, 400, .inl tp)), ((rx 1), .inl (cI, 100, .inl ((et_n Q k (et_sg tp a)).2.1))), ((rx 2), .inl (cI, 24, .inl ((et_n Q k (et_sg tp a)).2.2.2))), (aX, .inr (10, [.ref (nx 0), .ref (nx 1), .ref (nx 2), .ref (nx 3), .ref (nx 4), .ref (nx 5), .ref (nx 6), .int (nI (et_n Q k (et_sg tp a)).1), .int x8, .int x9, .int x10])), ((nx 2), .inl (cI, 12, .inl ((et_n Q k (et_sg tp a)).2.2.1)))] → va_S A s.heap H locs → lv_has ls 6 [(0, .ref aR), (1, .ref aX), (2, .int (nI b)), (3, .int (et_sg tp a)), (4, .int (nI (et_x Q k)))] → W p l e ({ frames := 0, cells := 0, slots := 0, locals := 0 } : Room) s m ([.ref aR, .ref aX, .int (nI b)] : List Value).toArray below meth c H locs 0 0 QQ (F0 m 106 ls [.int (nI (et_v tp Q k b))]) := by
      intro H locs ls hP hD hS hl
      refine lv_istore (lv' := [(5, .int (nI (et_v tp Q k b))), (0, .ref aR), (1, .ref aX), (2, .int (nI b)), (3, .int (et_sg tp a)), (4, .int (nI (et_x Q k)))]) hx hb dgX9_enter_106 hl (by decide) rfl (fun ls hl => ?_)
      refine lv_aload_n hx hb dgX9_enter_108 rfl (lv_at hl 1 rfl) ?_
      refine va_get (D := (dC, dI)) (ci := 12) (v := .ref (rx 2)) (C := RX9) (T := TX9) (N := 6) hx hb hts (fun _ h => List.mem_cons_of_mem _ (List.mem_append_left _ (List.mem_append_left _ (List.mem_append_right _ h)))) hown hK hP 0 rfl rfl 3 (by decide) (hts (.fieldLink RX9 19 "KnotHouse$Reader" "begins" "[I") (by decide +kernel)) (fun _ h9 => h9) rfl dgX9_enter_109 ?_
      refine lv_iload hx hb dgX9_enter_112 (lv_at hl 0 rfl) ?_
      refine va_iald hx hb hK hP 3 0 rfl rfl (vp_in_nI (n := (et_v tp Q k b)) (N := 24) hv24 (by decide)) dgX9_enter_114 ?_
      refine ow_topi (y := ((et_n Q k (et_sg tp a)).2.2.2) (et_v tp Q k b)) (congrArg ((et_n Q k (et_sg tp a)).2.2.2) (nI_clamp (n := (et_v tp Q k b)) (Nat.lt_trans (m := 24) hv24 (by decide)))) ?_
      refine lv_iconst (v := (-1)) hx hb dgX9_enter_115 (by decide) ?_
      rcases Decidable.em ((et_n Q k (et_sg tp a)).2.2.2 (et_v tp Q k b) = -1) with h1 | h1
      · refine lv_icmp_ne (tgt := 130) hx hb dgX9_enter_116 (by decide) (fun c9 => absurd c9 (not_not_intro h1)) (fun _ => ?_)
        refine lv_aload_n hx hb dgX9_enter_119 rfl (lv_at hl 2 rfl) ?_
        refine va_get (D := (dC, dI)) (ci := 10) (v := .ref (nx 2)) (C := RX7) (T := TX7) (N := 11) hx hb hts (fun _ h => List.mem_cons_of_mem _ (List.mem_append_left _ (List.mem_append_right _ h))) hown hK hP 4 rfl rfl 2 (by decide) (hts (.fieldLink RX9 69 "KnotHouse$Net" "sign" "[I") (by decide +kernel)) (fun _ h9 => h9) rfl dgX9_enter_120 ?_
        refine lv_iload hx hb dgX9_enter_123 (lv_at hl 5 rfl) ?_
        refine va_iald hx hb hK hP 5 0 rfl rfl (vp_in_nI (n := (et_x Q k)) (N := 12) hx12 (by decide)) dgX9_enter_125 ?_
        refine ow_topi (y := ((et_n Q k (et_sg tp a)).2.2.1) (et_x Q k)) (congrArg ((et_n Q k (et_sg tp a)).2.2.1) (nI_clamp (n := (et_x Q k)) (Nat.lt_trans (m := 12) hx12 (by decide)))) ?_
        refine lv_iload_n hx hb dgX9_enter_126 rfl (lv_at hl 4 rfl) ?_
        rcases Decidable.em ((et_n Q k (et_sg tp a)).2.2.1 (et_x Q k) = (et_sg tp a)) with h2 | h2
        · refine lv_icmp_eq (tgt := 132) hx hb dgX9_enter_127 (by decide) (fun _ => ?_) (fun c9 => absurd (h2) c9)
          refine lv_aload_n hx hb dgX9_enter_132 rfl (lv_at hl 1 rfl) ?_
          refine va_get (D := (dC, dI)) (ci := 12) (v := .ref (rx 2)) (C := RX9) (T := TX9) (N := 6) hx hb hts (fun _ h => List.mem_cons_of_mem _ (List.mem_append_left _ (List.mem_append_left _ (List.mem_append_right _ h)))) hown hK hP 0 rfl rfl 3 (by decide) (hts (.fieldLink RX9 19 "KnotHouse$Reader" "begins" "[I") (by decide +kernel)) (fun _ h9 => h9) rfl dgX9_enter_133 ?_
          refine lv_iload hx hb dgX9_enter_136 (lv_at hl 0 rfl) ?_
          refine lv_iload_n hx hb dgX9_enter_138 rfl (lv_at hl 3 rfl) ?_
          refine ow_iastF (j := (et_v tp Q k b)) (x := nI b) hx hb hK hP hD hS 3 0 rfl rfl hv24 (by decide) dgX9_enter_139 (fun H locs hP hD hS => ?_)
          have hP : va_P (dC, dI) vwCl [(aR, .inr (12, [.int x0, .ref (rx 0), .ref (rx 1), .ref (rx 2), .int (nI a), .int (nI k)])), ((rx 0), .inl (cB, 400, .inl tp)), ((rx 1), .inl (cI, 100, .inl ((et_n Q k (et_sg tp a)).2.1))), ((rx 2), .inl (cI, 24, .inl (su ((et_n Q k (et_sg tp a)).2.2.2) (et_v tp Q k b) (nI b)))), (aX, .inr (10, [.ref (nx 0), .ref (nx 1), .ref (nx 2), .ref (nx 3), .ref (nx 4), .ref (nx 5), .ref (nx 6), .int (nI (et_n Q k (et_sg tp a)).1), .int x8, .int x9, .int x10])), ((nx 2), .inl (cI, 12, .inl ((et_n Q k (et_sg tp a)).2.2.1)))] H := hP
          have hD : va_D A [(aR, .inr (12, [.int x0, .ref (rx 0), .ref (rx 1), .ref (rx 2), .int (nI a), .int (nI k)])), ((rx 0), .inl (cB, 400, .inl tp)), ((rx 1), .inl (cI, 100, .inl ((et_n Q k (et_sg tp a)).2.1))), ((rx 2), .inl (cI, 24, .inl (su ((et_n Q k (et_sg tp a)).2.2.2) (et_v tp Q k b) (nI b)))), (aX, .inr (10, [.ref (nx 0), .ref (nx 1), .ref (nx 2), .ref (nx 3), .ref (nx 4), .ref (nx 5), .ref (nx 6), .int (nI (et_n Q k (et_sg tp a)).1), .int x8, .int x9, .int x10])), ((nx 2), .inl (cI, 12, .inl ((et_n Q k (et_sg tp a)).2.2.1)))] := hD
          refine lv_iload hx hb dgX9_enter_140 (lv_at hl 0 rfl) ?_
          have hq : (et_run tp Q a k b) = (some (et_v tp Q k b), ((et_n Q k (et_sg tp a)).1, (et_n Q k (et_sg tp a)).2.1, (et_n Q k (et_sg tp a)).2.2.1, su Q.2.2.2 (et_v tp Q k b) (nI b))) := by rw [hbg] at h1; rw [et_run, if_neg hn, if_pos ⟨h1, h2⟩]
          rw [hbg] at hP hD
          have hP : va_P (dC, dI) vwCl [(aR, .inr (12, [.int x0, .ref (rx 0), .ref (rx 1), .ref (rx 2), .int (nI a), .int (nI k)])), ((rx 0), .inl (cB, 400, .inl tp)), ((rx 1), .inl (cI, 100, .inl ((et_n Q k (et_sg tp a)).2.1))), ((rx 2), .inl (cI, 24, .inl (su Q.2.2.2 (et_v tp Q k b) (nI b)))), (aX, .inr (10, [.ref (nx 0), .ref (nx 1), .ref (nx 2), .ref (nx 3), .ref (nx 4), .ref (nx 5), .ref (nx 6), .int (nI (et_n Q k (et_sg tp a)).1), .int x8, .int x9, .int x10])), ((nx 2), .inl (cI, 12, .inl ((et_n Q k (et_sg tp a)).2.2.1)))] H := hP
          have hD : va_D A [(aR, .inr (12, [.int x0, .ref (rx 0), .ref (rx 1), .ref (rx 2), .int (nI a), .int (nI k)])), ((rx 0), .inl (cB, 400, .inl tp)), ((rx 1), .inl (cI, 100, .inl ((et_n Q k (et_sg tp a)).2.1))), ((rx 2), .inl (cI, 24, .inl (su Q.2.2.2 (et_v tp Q k b) (nI b)))), (aX, .inr (10, [.ref (nx 0), .ref (nx 1), .ref (nx 2), .ref (nx 3), .ref (nx 4), .ref (nx 5), .ref (nx 6), .int (nI (et_n Q k (et_sg tp a)).1), .int x8, .int x9, .int x10])), ((nx 2), .inl (cI, 12, .inl ((et_n Q k (et_sg tp a)).2.2.1)))] := hD
          have hP : va_P (dC, dI) vwCl [(aR, .inr (12, [.int x0, .ref (rx 0), .ref (rx 1), .ref (rx 2), .int (nI a), .int (nI k)])), ((rx 0), .inl (cB, 400, .inl tp)), ((rx 1), .inl (cI, 100, .inl ((et_run tp Q a k b).2.2.1))), ((rx 2), .inl (cI, 24, .inl ((et_run tp Q a k b).2.2.2.2))), (aX, .inr (10, [.ref (nx 0), .ref (nx 1), .ref (nx 2), .ref (nx 3), .ref (nx 4), .ref (nx 5), .ref (nx 6), .int (nI (et_run tp Q a k b).2.1), .int x8, .int x9, .int x10])), ((nx 2), .inl (cI, 12, .inl ((et_run tp Q a k b).2.2.2.1)))] H := by rw [hq]; exact hP
          have hD : va_D A [(aR, .inr (12, [.int x0, .ref (rx 0), .ref (rx 1), .ref (rx 2), .int (nI a), .int (nI k)])), ((rx 0), .inl (cB, 400, .inl tp)), ((rx 1), .inl (cI, 100, .inl ((et_run tp Q a k b).2.2.1))), ((rx 2), .inl (cI, 24, .inl ((et_run tp Q a k b).2.2.2.2))), (aX, .inr (10, [.ref (nx 0), .ref (nx 1), .ref (nx 2), .ref (nx 3), .ref (nx 4), .ref (nx 5), .ref (nx 6), .int (nI (et_run tp Q a k b).2.1), .int x8, .int x9, .int x10])), ((nx 2), .inl (cI, 12, .inl ((et_run tp Q a k b).2.2.2.1)))] := by rw [hq]; exact hD
          rw [hQQ]
          exact W.iret (v := (nI (et_v tp Q k b))) hx hb hr (fun t ht hW => ⟨⟨(nI (et_v tp Q k b)), (), rfl, by rw [hq]; rfl, by rw [ht]; exact hP, hD⟩, hS.F ht⟩) hS.2.2 dgX9_enter_142
        · refine lv_icmp_eq (tgt := 132) hx hb dgX9_enter_127 (by decide) (fun c9 => absurd c9 (h2)) (fun _ => ?_)
          refine lv_iconst (v := (-1)) hx hb dgX9_enter_130 (by decide) ?_
          have hq : (et_run tp Q a k b) = (none, (et_n Q k (et_sg tp a))) := by rw [et_run, if_neg hn, if_neg (fun h9 => h2 h9.2)]
          have hP : va_P (dC, dI) vwCl [(aR, .inr (12, [.int x0, .ref (rx 0), .ref (rx 1), .ref (rx 2), .int (nI a), .int (nI k)])), ((rx 0), .inl (cB, 400, .inl tp)), ((rx 1), .inl (cI, 100, .inl ((et_run tp Q a k b).2.2.1))), ((rx 2), .inl (cI, 24, .inl ((et_run tp Q a k b).2.2.2.2))), (aX, .inr (10, [.ref (nx 0), .ref (nx 1), .ref (nx 2), .ref (nx 3), .ref (nx 4), .ref (nx 5), .ref (nx 6), .int (nI (et_run tp Q a k b).2.1), .int x8, .int x9, .int x10])), ((nx 2), .inl (cI, 12, .inl ((et_run tp Q a k b).2.2.2.1)))] H := by rw [hq]; exact hP
          have hD : va_D A [(aR, .inr (12, [.int x0, .ref (rx 0), .ref (rx 1), .ref (rx 2), .int (nI a), .int (nI k)])), ((rx 0), .inl (cB, 400, .inl tp)), ((rx 1), .inl (cI, 100, .inl ((et_run tp Q a k b).2.2.1))), ((rx 2), .inl (cI, 24, .inl ((et_run tp Q a k b).2.2.2.2))), (aX, .inr (10, [.ref (nx 0), .ref (nx 1), .ref (nx 2), .ref (nx 3), .ref (nx 4), .ref (nx 5), .ref (nx 6), .int (nI (et_run tp Q a k b).2.1), .int x8, .int x9, .int x10])), ((nx 2), .inl (cI, 12, .inl ((et_run tp Q a k b).2.2.2.1)))] := by rw [hq]; exact hD
          rw [hQQ]
          exact W.iret (v := (-1)) hx hb hr (fun t ht hW => ⟨⟨(-1), (), rfl, by rw [hq]; rfl, by rw [ht]; exact hP, hD⟩, hS.F ht⟩) hS.2.2 dgX9_enter_131
      · refine lv_icmp_ne (tgt := 130) hx hb dgX9_enter_116 (by decide) (fun _ => ?_) (fun c9 => absurd c9 (h1))
        refine lv_iconst (v := (-1)) hx hb dgX9_enter_130 (by decide) ?_
        have hq : (et_run tp Q a k b) = (none, (et_n Q k (et_sg tp a))) := by rw [et_run, if_neg hn, if_neg (fun h9 => h1 (by rw [hbg]; exact h9.1))]
        have hP : va_P (dC, dI) vwCl [(aR, .inr (12, [.int x0, .ref (rx 0), .ref (rx 1), .ref (rx 2), .int (nI a), .int (nI k)])), ((rx 0), .inl (cB, 400, .inl tp)), ((rx 1), .inl (cI, 100, .inl ((et_run tp Q a k b).2.2.1))), ((rx 2), .inl (cI, 24, .inl ((et_run tp Q a k b).2.2.2.2))), (aX, .inr (10, [.ref (nx 0), .ref (nx 1), .ref (nx 2), .ref (nx 3), .ref (nx 4), .ref (nx 5), .ref (nx 6), .int (nI (et_run tp Q a k b).2.1), .int x8, .int x9, .int x10])), ((nx 2), .inl (cI, 12, .inl ((et_run tp Q a k b).2.2.2.1)))] H := by rw [hq]; exact hP
        have hD : va_D A [(aR, .inr (12, [.int x0, .ref (rx 0), .ref (rx 1), .ref (rx 2), .int (nI a), .int (nI k)])), ((rx 0), .inl (cB, 400, .inl tp)), ((rx 1), .inl (cI, 100, .inl ((et_run tp Q a k b).2.2.1))), ((rx 2), .inl (cI, 24, .inl ((et_run tp Q a k b).2.2.2.2))), (aX, .inr (10, [.ref (nx 0), .ref (nx 1), .ref (nx 2), .ref (nx 3), .ref (nx 4), .ref (nx 5), .ref (nx 6), .int (nI (et_run tp Q a k b).2.1), .int x8, .int x9, .int x10])), ((nx 2), .inl (cI, 12, .inl ((et_run tp Q a k b).2.2.2.1)))] := by rw [hq]; exact hD
        rw [hQQ]
        exact W.iret (v := (-1)) hx hb hr (fun t ht hW => ⟨⟨(-1), (), rfl, by rw [hq]; rfl, by rw [ht]; exact hP, hD⟩, hS.F ht⟩) hS.2.2 dgX9_enter_131
    rcases Decidable.em (tp b = 117) with h1 | h1
    · refine lv_icmp_ne (tgt := 104) hx hb dgX9_enter_97 (by decide) (fun c9 => absurd c9 (not_not_intro h1)) (fun _ => ?_)
      refine lv_iconst (v := 1) hx hb dgX9_enter_100 (by decide) ?_
      refine lv_goto (tgt := 105) hx hb dgX9_enter_101 (by decide) ?_
      refine lv_iadd hx hb dgX9_enter_105 ?_
      refine ow_topi (y := nI (et_v tp Q k b)) (by rw [et_v, if_pos h1]; exact nI_1 _) ?_
      exact K106 H locs ls hP hD hS (lv_sub hl [0, 1, 2, 3, 4] rfl)
    · refine lv_icmp_ne (tgt := 104) hx hb dgX9_enter_97 (by decide) (fun _ => ?_) (fun c9 => absurd c9 (h1))
      refine lv_iconst (v := 0) hx hb dgX9_enter_104 (by decide) ?_
      refine lv_iadd hx hb dgX9_enter_105 ?_
      refine ow_topi (y := nI (et_v tp Q k b)) (by rw [et_v, if_neg h1]; exact Int32.add_zero _) ?_
      exact K106 H locs ls hP hD hS (lv_sub hl [0, 1, 2, 3, 4] rfl)
  have K22 : ∀ (H : Heap) (locs : List Loc) (ls : Array Slot), va_P (dC, dI) vwCl [(aR, .inr (12, [.int x0, .ref (rx 0), .ref (rx 1), .ref (rx 2), .int (nI a), .int (nI k)])), ((rx 0), .inl (cB, 400, .inl tp)), ((rx 1), .inl (cI, 100, .inl Q.2.1)), ((rx 2), .inl (cI, 24, .inl Q.2.2.2)), (aX, .inr (10, [.ref (nx 0), .ref (nx 1), .ref (nx 2), .ref (nx 3), .ref (nx 4), .ref (nx 5), .ref (nx 6), .int (nI Q.1), .int x8, .int x9, .int x10])), ((nx 2), .inl (cI, 12, .inl Q.2.2.1))] H → va_D A [(aR, .inr (12, [.int x0, .ref (rx 0), .ref (rx 1), .ref (rx 2), .int (nI a), .int (nI k)])), ((rx 0), .inl (cB, 400, .inl tp)), ((rx 1), .inl (cI, 100, .inl Q.2.1)), ((rx 2), .inl (cI, 24, .inl Q.2.2.2)), (aX, .inr (10, [.ref (nx 0), .ref (nx 1), .ref (nx 2), .ref (nx 3), .ref (nx 4), .ref (nx 5), .ref (nx 6), .int (nI Q.1), .int x8, .int x9, .int x10])), ((nx 2), .inl (cI, 12, .inl Q.2.2.1))] → va_S A s.heap H locs → lv_has ls 6 [(0, .ref aR), (1, .ref aX), (2, .int (nI b)), (3, .int (et_sg tp a))] → W p l e ({ frames := 0, cells := 0, slots := 0, locals := 0 } : Room) s m ([.ref aR, .ref aX, .int (nI b)] : List Value).toArray below meth c H locs 0 0 QQ (F0 m 22 ls []) := by
    intro H locs ls hP hD hS hl
    refine lv_aload_n hx hb dgX9_enter_22 rfl (lv_at hl 0 rfl) ?_
    refine va_get (D := (dC, dI)) (ci := 12) (v := .ref (rx 1)) (C := RX9) (T := TX9) (N := 6) hx hb hts (fun _ h => List.mem_cons_of_mem _ (List.mem_append_left _ (List.mem_append_left _ (List.mem_append_right _ h)))) hown hK hP 0 rfl rfl 2 (by decide) (hts (.fieldLink RX9 15 "KnotHouse$Reader" "crossingOf" "[I") (by decide +kernel)) (fun _ h9 => h9) rfl dgX9_enter_23 ?_
    refine lv_aload_n hx hb dgX9_enter_26 rfl (lv_at hl 0 rfl) ?_
    refine va_get (D := (dC, dI)) (ci := 12) (v := .int (nI k)) (C := RX9) (T := TX9) (N := 6) hx hb hts (fun _ h => List.mem_cons_of_mem _ (List.mem_append_left _ (List.mem_append_left _ (List.mem_append_right _ h)))) hown hK hP 0 rfl rfl 5 (by decide) (hts (.fieldLink RX9 63 "KnotHouse$Reader" "name" "I") (by decide +kernel)) (fun _ h9 => h9) rfl dgX9_enter_27 ?_
    refine va_iald hx hb hK hP 2 0 rfl rfl (vp_in_nI (n := k) (N := 100) hk9 (by decide)) dgX9_enter_30 ?_
    refine ow_topi (y := Q.2.1 k) (congrArg Q.2.1 (nI_clamp (n := k) (Nat.lt_trans (m := 100) hk9 (by decide)))) ?_
    refine lv_istore (lv' := [(4, .int (Q.2.1 k)), (0, .ref aR), (1, .ref aX), (2, .int (nI b)), (3, .int (et_sg tp a))]) hx hb dgX9_enter_31 hl (by decide) rfl (fun ls hl => ?_)
    refine lv_iload hx hb dgX9_enter_33 (lv_at hl 0 rfl) ?_
    refine lv_iconst (v := (-1)) hx hb dgX9_enter_35 (by decide) ?_
    rcases Decidable.em (Q.2.1 k = -1) with h1 | h1
    · refine lv_icmp_ne (tgt := 85) hx hb dgX9_enter_36 (by decide) (fun c9 => absurd c9 (not_not_intro h1)) (fun _ => ?_)
      refine lv_aload_n hx hb dgX9_enter_39 rfl (lv_at hl 2 rfl) ?_
      refine va_get (D := (dC, dI)) (ci := 10) (v := .int (nI Q.1)) (C := RX7) (T := TX7) (N := 11) hx hb hts (fun _ h => List.mem_cons_of_mem _ (List.mem_append_left _ (List.mem_append_right _ h))) hown hK hP 4 rfl rfl 7 (by decide) (hts (.fieldLink RX9 66 "KnotHouse$Net" "crossings" "I") (by decide +kernel)) (fun _ h9 => h9) rfl dgX9_enter_40 ?_
      refine lv_bipush (v := 12) hx hb dgX9_enter_43 (by decide) ?_
      rcases Nat.lt_or_ge Q.1 12 with h2 | h2
      · refine lv_icmp_lt (tgt := 50) hx hb dgX9_enter_45 (by decide) (fun _ => ?_) (fun c9 => absurd (nI_lt (a := Q.1) (b := 12) h2 (by decide)) c9)
        refine lv_aload_n hx hb dgX9_enter_50 rfl (lv_at hl 2 rfl) ?_
        refine va_get (D := (dC, dI)) (ci := 10) (v := .int (nI Q.1)) (C := RX7) (T := TX7) (N := 11) hx hb hts (fun _ h => List.mem_cons_of_mem _ (List.mem_append_left _ (List.mem_append_right _ h))) hown hK hP 4 rfl rfl 7 (by decide) (hts (.fieldLink RX9 66 "KnotHouse$Net" "crossings" "I") (by decide +kernel)) (fun _ h9 => h9) rfl dgX9_enter_51 ?_
        refine lv_istore (lv' := [(4, .int (nI Q.1)), (0, .ref aR), (1, .ref aX), (2, .int (nI b)), (3, .int (et_sg tp a))]) hx hb dgX9_enter_54 hl (by decide) rfl (fun ls hl => ?_)
        refine lv_aload_n hx hb dgX9_enter_56 rfl (lv_at hl 2 rfl) ?_
        refine lv_dup hx hb dgX9_enter_57 rfl ?_
        refine va_get (D := (dC, dI)) (ci := 10) (v := .int (nI Q.1)) (C := RX7) (T := TX7) (N := 11) hx hb hts (fun _ h => List.mem_cons_of_mem _ (List.mem_append_left _ (List.mem_append_right _ h))) hown hK hP 4 rfl rfl 7 (by decide) (hts (.fieldLink RX9 66 "KnotHouse$Net" "crossings" "I") (by decide +kernel)) (fun _ h9 => h9) rfl dgX9_enter_58 ?_
        refine lv_iconst (v := 1) hx hb dgX9_enter_61 (by decide) ?_
        refine lv_iadd hx hb dgX9_enter_62 ?_
        refine ow_topi (y := nI (Q.1 + 1)) (nI_1 (Q.1)) ?_
        refine va_put (D := (dC, dI)) (ci := 10) (v := .int (nI (Q.1 + 1))) (ty := .int) (C := RX7) (T := TX7) (N := 11) hx hb hts (fun _ h => List.mem_cons_of_mem _ (List.mem_append_left _ (List.mem_append_right _ h))) tyX7 tyX7_ok nmX7 hown hK hP hD hS 4 rfl rfl 7 (by decide) (hts (.fieldLink RX9 66 "KnotHouse$Net" "crossings" "I") (by decide +kernel)) (fun _ h9 => h9) rfl (by decide +kernel) rfl rfl (Nat.le_of_ble_eq_true rfl) dgX9_enter_63 (fun H locs hP hD hS => ?_)
        have hP : va_P (dC, dI) vwCl [(aR, .inr (12, [.int x0, .ref (rx 0), .ref (rx 1), .ref (rx 2), .int (nI a), .int (nI k)])), ((rx 0), .inl (cB, 400, .inl tp)), ((rx 1), .inl (cI, 100, .inl Q.2.1)), ((rx 2), .inl (cI, 24, .inl Q.2.2.2)), (aX, .inr (10, [.ref (nx 0), .ref (nx 1), .ref (nx 2), .ref (nx 3), .ref (nx 4), .ref (nx 5), .ref (nx 6), .int (nI (Q.1 + 1)), .int x8, .int x9, .int x10])), ((nx 2), .inl (cI, 12, .inl Q.2.2.1))] H := hP
        have hD : va_D A [(aR, .inr (12, [.int x0, .ref (rx 0), .ref (rx 1), .ref (rx 2), .int (nI a), .int (nI k)])), ((rx 0), .inl (cB, 400, .inl tp)), ((rx 1), .inl (cI, 100, .inl Q.2.1)), ((rx 2), .inl (cI, 24, .inl Q.2.2.2)), (aX, .inr (10, [.ref (nx 0), .ref (nx 1), .ref (nx 2), .ref (nx 3), .ref (nx 4), .ref (nx 5), .ref (nx 6), .int (nI (Q.1 + 1)), .int x8, .int x9, .int x10])), ((nx 2), .inl (cI, 12, .inl Q.2.2.1))] := hD
        refine lv_aload_n hx hb dgX9_enter_66 rfl (lv_at hl 1 rfl) ?_
        refine va_get (D := (dC, dI)) (ci := 12) (v := .ref (rx 1)) (C := RX9) (T := TX9) (N := 6) hx hb hts (fun _ h => List.mem_cons_of_mem _ (List.mem_append_left _ (List.mem_append_left _ (List.mem_append_right _ h)))) hown hK hP 0 rfl rfl 2 (by decide) (hts (.fieldLink RX9 15 "KnotHouse$Reader" "crossingOf" "[I") (by decide +kernel)) (fun _ h9 => h9) rfl dgX9_enter_67 ?_
        refine lv_aload_n hx hb dgX9_enter_70 rfl (lv_at hl 1 rfl) ?_
        refine va_get (D := (dC, dI)) (ci := 12) (v := .int (nI k)) (C := RX9) (T := TX9) (N := 6) hx hb hts (fun _ h => List.mem_cons_of_mem _ (List.mem_append_left _ (List.mem_append_left _ (List.mem_append_right _ h)))) hown hK hP 0 rfl rfl 5 (by decide) (hts (.fieldLink RX9 63 "KnotHouse$Reader" "name" "I") (by decide +kernel)) (fun _ h9 => h9) rfl dgX9_enter_71 ?_
        refine lv_iload hx hb dgX9_enter_74 (lv_at hl 0 rfl) ?_
        refine ow_iastF (j := k) (x := nI Q.1) hx hb hK hP hD hS 2 0 rfl rfl hk9 (by decide) dgX9_enter_76 (fun H locs hP hD hS => ?_)
        have hP : va_P (dC, dI) vwCl [(aR, .inr (12, [.int x0, .ref (rx 0), .ref (rx 1), .ref (rx 2), .int (nI a), .int (nI k)])), ((rx 0), .inl (cB, 400, .inl tp)), ((rx 1), .inl (cI, 100, .inl (su Q.2.1 k (nI Q.1)))), ((rx 2), .inl (cI, 24, .inl Q.2.2.2)), (aX, .inr (10, [.ref (nx 0), .ref (nx 1), .ref (nx 2), .ref (nx 3), .ref (nx 4), .ref (nx 5), .ref (nx 6), .int (nI (Q.1 + 1)), .int x8, .int x9, .int x10])), ((nx 2), .inl (cI, 12, .inl Q.2.2.1))] H := hP
        have hD : va_D A [(aR, .inr (12, [.int x0, .ref (rx 0), .ref (rx 1), .ref (rx 2), .int (nI a), .int (nI k)])), ((rx 0), .inl (cB, 400, .inl tp)), ((rx 1), .inl (cI, 100, .inl (su Q.2.1 k (nI Q.1)))), ((rx 2), .inl (cI, 24, .inl Q.2.2.2)), (aX, .inr (10, [.ref (nx 0), .ref (nx 1), .ref (nx 2), .ref (nx 3), .ref (nx 4), .ref (nx 5), .ref (nx 6), .int (nI (Q.1 + 1)), .int x8, .int x9, .int x10])), ((nx 2), .inl (cI, 12, .inl Q.2.2.1))] := hD
        refine lv_aload_n hx hb dgX9_enter_77 rfl (lv_at hl 2 rfl) ?_
        refine va_get (D := (dC, dI)) (ci := 10) (v := .ref (nx 2)) (C := RX7) (T := TX7) (N := 11) hx hb hts (fun _ h => List.mem_cons_of_mem _ (List.mem_append_left _ (List.mem_append_right _ h))) hown hK hP 4 rfl rfl 2 (by decide) (hts (.fieldLink RX9 69 "KnotHouse$Net" "sign" "[I") (by decide +kernel)) (fun _ h9 => h9) rfl dgX9_enter_78 ?_
        refine lv_iload hx hb dgX9_enter_81 (lv_at hl 0 rfl) ?_
        refine lv_iload_n hx hb dgX9_enter_83 rfl (lv_at hl 4 rfl) ?_
        refine ow_iastF (j := Q.1) (x := (et_sg tp a)) hx hb hK hP hD hS 5 0 rfl rfl h2 (by decide) dgX9_enter_84 (fun H locs hP hD hS => ?_)
        have hP : va_P (dC, dI) vwCl [(aR, .inr (12, [.int x0, .ref (rx 0), .ref (rx 1), .ref (rx 2), .int (nI a), .int (nI k)])), ((rx 0), .inl (cB, 400, .inl tp)), ((rx 1), .inl (cI, 100, .inl (su Q.2.1 k (nI Q.1)))), ((rx 2), .inl (cI, 24, .inl Q.2.2.2)), (aX, .inr (10, [.ref (nx 0), .ref (nx 1), .ref (nx 2), .ref (nx 3), .ref (nx 4), .ref (nx 5), .ref (nx 6), .int (nI (Q.1 + 1)), .int x8, .int x9, .int x10])), ((nx 2), .inl (cI, 12, .inl (su Q.2.2.1 Q.1 (et_sg tp a))))] H := hP
        have hD : va_D A [(aR, .inr (12, [.int x0, .ref (rx 0), .ref (rx 1), .ref (rx 2), .int (nI a), .int (nI k)])), ((rx 0), .inl (cB, 400, .inl tp)), ((rx 1), .inl (cI, 100, .inl (su Q.2.1 k (nI Q.1)))), ((rx 2), .inl (cI, 24, .inl Q.2.2.2)), (aX, .inr (10, [.ref (nx 0), .ref (nx 1), .ref (nx 2), .ref (nx 3), .ref (nx 4), .ref (nx 5), .ref (nx 6), .int (nI (Q.1 + 1)), .int x8, .int x9, .int x10])), ((nx 2), .inl (cI, 12, .inl (su Q.2.2.1 Q.1 (et_sg tp a))))] := hD
        have hqn : (et_n Q k (et_sg tp a)) = (Q.1 + 1, su Q.2.1 k (nI Q.1), su Q.2.2.1 Q.1 (et_sg tp a), Q.2.2.2) := if_pos h1
        have hxx : (et_x Q k) = Q.1 := if_pos h1
        have hP : va_P (dC, dI) vwCl [(aR, .inr (12, [.int x0, .ref (rx 0), .ref (rx 1), .ref (rx 2), .int (nI a), .int (nI k)])), ((rx 0), .inl (cB, 400, .inl tp)), ((rx 1), .inl (cI, 100, .inl ((et_n Q k (et_sg tp a)).2.1))), ((rx 2), .inl (cI, 24, .inl ((et_n Q k (et_sg tp a)).2.2.2))), (aX, .inr (10, [.ref (nx 0), .ref (nx 1), .ref (nx 2), .ref (nx 3), .ref (nx 4), .ref (nx 5), .ref (nx 6), .int (nI (et_n Q k (et_sg tp a)).1), .int x8, .int x9, .int x10])), ((nx 2), .inl (cI, 12, .inl ((et_n Q k (et_sg tp a)).2.2.1)))] H := by rw [hqn]; exact hP
        have hD : va_D A [(aR, .inr (12, [.int x0, .ref (rx 0), .ref (rx 1), .ref (rx 2), .int (nI a), .int (nI k)])), ((rx 0), .inl (cB, 400, .inl tp)), ((rx 1), .inl (cI, 100, .inl ((et_n Q k (et_sg tp a)).2.1))), ((rx 2), .inl (cI, 24, .inl ((et_n Q k (et_sg tp a)).2.2.2))), (aX, .inr (10, [.ref (nx 0), .ref (nx 1), .ref (nx 2), .ref (nx 3), .ref (nx 4), .ref (nx 5), .ref (nx 6), .int (nI (et_n Q k (et_sg tp a)).1), .int x8, .int x9, .int x10])), ((nx 2), .inl (cI, 12, .inl ((et_n Q k (et_sg tp a)).2.2.1)))] := by rw [hqn]; exact hD
        refine K85 (fun h9 => absurd h9.2 (by omega)) H locs ls hP hD hS ?_
        rw [hxx]
        exact (lv_sub hl [1, 2, 3, 4, 0] rfl)
      · refine lv_icmp_lt (tgt := 50) hx hb dgX9_enter_45 (by decide) (fun c9 => absurd c9 (nI_nlt (a := Q.1) (b := 12) h2 (by omega))) (fun _ => ?_)
        refine lv_iconst (v := (-1)) hx hb dgX9_enter_48 (by decide) ?_
        have hq : (et_run tp Q a k b) = (none, Q) := if_pos ⟨h1, h2⟩
        have hP : va_P (dC, dI) vwCl [(aR, .inr (12, [.int x0, .ref (rx 0), .ref (rx 1), .ref (rx 2), .int (nI a), .int (nI k)])), ((rx 0), .inl (cB, 400, .inl tp)), ((rx 1), .inl (cI, 100, .inl ((et_run tp Q a k b).2.2.1))), ((rx 2), .inl (cI, 24, .inl ((et_run tp Q a k b).2.2.2.2))), (aX, .inr (10, [.ref (nx 0), .ref (nx 1), .ref (nx 2), .ref (nx 3), .ref (nx 4), .ref (nx 5), .ref (nx 6), .int (nI (et_run tp Q a k b).2.1), .int x8, .int x9, .int x10])), ((nx 2), .inl (cI, 12, .inl ((et_run tp Q a k b).2.2.2.1)))] H := by rw [hq]; exact hP
        have hD : va_D A [(aR, .inr (12, [.int x0, .ref (rx 0), .ref (rx 1), .ref (rx 2), .int (nI a), .int (nI k)])), ((rx 0), .inl (cB, 400, .inl tp)), ((rx 1), .inl (cI, 100, .inl ((et_run tp Q a k b).2.2.1))), ((rx 2), .inl (cI, 24, .inl ((et_run tp Q a k b).2.2.2.2))), (aX, .inr (10, [.ref (nx 0), .ref (nx 1), .ref (nx 2), .ref (nx 3), .ref (nx 4), .ref (nx 5), .ref (nx 6), .int (nI (et_run tp Q a k b).2.1), .int x8, .int x9, .int x10])), ((nx 2), .inl (cI, 12, .inl ((et_run tp Q a k b).2.2.2.1)))] := by rw [hq]; exact hD
        rw [hQQ]
        exact W.iret (v := (-1)) hx hb hr (fun t ht hW => ⟨⟨(-1), (), rfl, by rw [hq]; rfl, by rw [ht]; exact hP, hD⟩, hS.F ht⟩) hS.2.2 dgX9_enter_49
    · have hxx : Q.2.1 k = nI (et_x Q k) := by
        rcases hQ.2 k hk9 with h9 | ⟨x, hx, h9⟩
        · exact absurd h9 h1
        · rw [et_x, if_neg h1, h9, nI_clamp (by omega)]
      refine lv_icmp_ne (tgt := 85) hx hb dgX9_enter_36 (by decide) (fun _ => ?_) (fun c9 => absurd c9 (h1))
      have hqn : (et_n Q k (et_sg tp a)) = Q := if_neg h1
      have hP : va_P (dC, dI) vwCl [(aR, .inr (12, [.int x0, .ref (rx 0), .ref (rx 1), .ref (rx 2), .int (nI a), .int (nI k)])), ((rx 0), .inl (cB, 400, .inl tp)), ((rx 1), .inl (cI, 100, .inl ((et_n Q k (et_sg tp a)).2.1))), ((rx 2), .inl (cI, 24, .inl ((et_n Q k (et_sg tp a)).2.2.2))), (aX, .inr (10, [.ref (nx 0), .ref (nx 1), .ref (nx 2), .ref (nx 3), .ref (nx 4), .ref (nx 5), .ref (nx 6), .int (nI (et_n Q k (et_sg tp a)).1), .int x8, .int x9, .int x10])), ((nx 2), .inl (cI, 12, .inl ((et_n Q k (et_sg tp a)).2.2.1)))] H := by rw [hqn]; exact hP
      have hD : va_D A [(aR, .inr (12, [.int x0, .ref (rx 0), .ref (rx 1), .ref (rx 2), .int (nI a), .int (nI k)])), ((rx 0), .inl (cB, 400, .inl tp)), ((rx 1), .inl (cI, 100, .inl ((et_n Q k (et_sg tp a)).2.1))), ((rx 2), .inl (cI, 24, .inl ((et_n Q k (et_sg tp a)).2.2.2))), (aX, .inr (10, [.ref (nx 0), .ref (nx 1), .ref (nx 2), .ref (nx 3), .ref (nx 4), .ref (nx 5), .ref (nx 6), .int (nI (et_n Q k (et_sg tp a)).1), .int x8, .int x9, .int x10])), ((nx 2), .inl (cI, 12, .inl ((et_n Q k (et_sg tp a)).2.2.1)))] := by rw [hqn]; exact hD
      refine K85 (fun h9 => h1 h9.1) H locs ls hP hD hS ?_
      rw [← hxx]
      exact (lv_sub hl [1, 2, 3, 4, 0] rfl)
  refine lv_aload_n hx hb dgX9_enter_0 rfl (lv_at hl 0 rfl) ?_
  refine va_get (D := (dC, dI)) (ci := 12) (v := .ref (rx 0)) (C := RX9) (T := TX9) (N := 6) hx hb hts (fun _ h => List.mem_cons_of_mem _ (List.mem_append_left _ (List.mem_append_left _ (List.mem_append_right _ h)))) hown hK hP 0 rfl rfl 1 (by decide) (hts (.fieldLink RX9 9 "KnotHouse$Reader" "tape" "[B") (by decide +kernel)) (fun _ h9 => h9) rfl dgX9_enter_1 ?_
  refine lv_aload_n hx hb dgX9_enter_4 rfl (lv_at hl 0 rfl) ?_
  refine va_get (D := (dC, dI)) (ci := 12) (v := .int (nI a)) (C := RX9) (T := TX9) (N := 6) hx hb hts (fun _ h => List.mem_cons_of_mem _ (List.mem_append_left _ (List.mem_append_left _ (List.mem_append_right _ h)))) hown hK hP 0 rfl rfl 4 (by decide) (hts (.fieldLink RX9 37 "KnotHouse$Reader" "at" "I") (by decide +kernel)) (fun _ h9 => h9) rfl dgX9_enter_5 ?_
  refine lv_iconst (v := 1) hx hb dgX9_enter_8 (by decide) ?_
  refine lv_isub hx hb dgX9_enter_9 ?_
  refine ow_topi (y := nI (a - 1)) (pk_sub (b := 1) ha.1) ?_
  refine va_bald hx hb hK hP 1 1 rfl rfl (vp_in_nI (n := a - 1) (N := 400) (by omega) (by decide)) dgX9_enter_10 ?_
  refine ow_topi (y := tp (a - 1)) (congrArg tp (nI_clamp (n := a - 1) (Nat.lt_trans (m := 400) (by omega) (by decide)))) ?_
  refine lv_bipush (v := 43) hx hb dgX9_enter_11 (by decide) ?_
  rcases Decidable.em (tp (a - 1) = 43) with h1 | h1
  · refine lv_icmp_ne (tgt := 20) hx hb dgX9_enter_13 (by decide) (fun c9 => absurd c9 (not_not_intro h1)) (fun _ => ?_)
    refine lv_iconst (v := 1) hx hb dgX9_enter_16 (by decide) ?_
    refine lv_goto (tgt := 21) hx hb dgX9_enter_17 (by decide) ?_
    refine ow_topi (y := (et_sg tp a)) (by rw [et_sg, if_pos h1]) ?_
    refine lv_istore_n (lv' := [(3, .int (et_sg tp a)), (0, .ref aR), (1, .ref aX), (2, .int (nI b))]) hx hb dgX9_enter_21 rfl hl (by decide) rfl (fun ls hl => ?_)
    exact K22 H locs ls hP hD hS (lv_sub hl [1, 2, 3, 0] rfl)
  · refine lv_icmp_ne (tgt := 20) hx hb dgX9_enter_13 (by decide) (fun _ => ?_) (fun c9 => absurd c9 (h1))
    refine lv_iconst (v := (-1)) hx hb dgX9_enter_20 (by decide) ?_
    refine ow_topi (y := (et_sg tp a)) (by rw [et_sg, if_neg h1]) ?_
    refine lv_istore_n (lv' := [(3, .int (et_sg tp a)), (0, .ref aR), (1, .ref aX), (2, .int (nI b))]) hx hb dgX9_enter_21 rfl hl (by decide) rfl (fun ls hl => ?_)
    exact K22 H locs ls hP hD hS (lv_sub hl [1, 2, 3, 0] rfl)
