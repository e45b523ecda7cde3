/-! what holds of the tables while simples of n strands are made -/
def ow_J (n C : Nat) (fS fE fL fZ fM : Nat → Int32) : Prop :=
  fS n = nI C ∧ (∀ i, i < C → ∀ a, a < n → fE (5 * (120 * n + i) + a) = nI (ow_E n i a)) ∧ (∀ i, i < C → fZ (120 * n + i) = nI (ow_Z n i)) ∧ (∀ i, i < C → ∀ t, t < ow_Z n i → fL (10 * (120 * n + i) + t) = nI (ow_L n i t)) ∧ (∀ x, n < x → x ≤ 5 → fZ (120 * x) = nI 0) ∧ (∀ i, i < 2880 → ∃ r, r ≤ 120 ∧ fM i = nI r - 1)
theorem ow_Jm {n C : Nat} {fS fE fL fZ fM f1 : Nat → Int32} (h : ow_J n C fS fE fL fZ fM) {i r : Nat} (hr : r ≤ 120) (h1 : f1 i = nI r - 1) (h2 : ∀ k, k ≠ i → f1 k = fM k) : ow_J n C fS fE fL fZ f1 := by
  refine ⟨h.1, h.2.1, h.2.2.1, h.2.2.2.1, h.2.2.2.2.1, fun k hk => ?_⟩
  by_cases q : k = i
  · exact ⟨r, hr, by rw [q]; exact h1⟩
  · obtain ⟨r1, hr1, e1⟩ := h.2.2.2.2.2 k hk
    exact ⟨r1, hr1, (h2 k q).trans e1⟩
theorem ow_Je {n C : Nat} {fS fE fL fZ fM f1 : Nat → Int32} (h : ow_J n C fS fE fL fZ fM) (hn : n ≤ 5) {a : Nat} (h2 : ∀ k, k ≠ 5 * (120 * n + C) + a → f1 k = fE k) : ow_J n C fS f1 fL fZ fM :=
  ⟨h.1, fun i hi b hb => (h2 _ (by omega)).trans (h.2.1 i hi b hb), h.2.2⟩
theorem ow_Jz {n C : Nat} {fS fE fL fZ fM f1 : Nat → Int32} (h : ow_J n C fS fE fL fZ fM) (hC : C < 120) (h2 : ∀ k, k ≠ 120 * n + C → f1 k = fZ k) : ow_J n C fS fE fL f1 fM :=
  ⟨h.1, h.2.1, fun i hi => (h2 _ (by omega)).trans (h.2.2.1 i hi), h.2.2.2.1, fun x hx h5 => (h2 _ (by omega)).trans (h.2.2.2.2.1 x hx h5), h.2.2.2.2.2⟩
theorem ow_Jl {n C : Nat} {fS fE fL fZ fM f1 : Nat → Int32} (h : ow_J n C fS fE fL fZ fM) (hz : ∀ i, i < C → ow_Z n i ≤ 10) {t : Nat} (h2 : ∀ k, k ≠ 10 * (120 * n + C) + t → f1 k = fL k) : ow_J n C fS fE f1 fZ fM :=
  ⟨h.1, h.2.1, h.2.2.1, fun i hi u hu => (h2 _ (by have h9 := hz i hi; omega)).trans (h.2.2.2.1 i hi u hu), h.2.2.2.2⟩
theorem ow_Jn {n C : Nat} {fS fE fL fZ fM f1 : Nat → Int32} (h : ow_J n C fS fE fL fZ fM) (h1 : f1 n = nI (C + 1)) (hE : ∀ a, a < n → fE (5 * (120 * n + C) + a) = nI (ow_E n C a)) (hZ : fZ (120 * n + C) = nI (ow_Z n C)) (hL : ∀ t, t < ow_Z n C → fL (10 * (120 * n + C) + t) = nI (ow_L n C t)) : ow_J n (C + 1) f1 fE fL fZ fM := by
  refine ⟨h1, fun i hi => ?_, fun i hi => ?_, fun i hi => ?_, h.2.2.2.2⟩
  · by_cases q : i = C
    · rw [q]
      exact hE
    · exact h.2.1 i (by omega)
  · by_cases q : i = C
    · rw [q]
      exact hZ
    · exact h.2.2.1 i (by omega)
  · by_cases q : i = C
    · rw [q]
      exact hL
    · exact h.2.2.2.1 i (by omega)
theorem ow_E8 (n k a : Nat) : ow_E n k a < 8 := Nat.mod_lt _ (by decide)
theorem ow_L4 (n k t : Nat) : ow_L n k t < 4 := Nat.mod_lt _ (by decide)
theorem ow_inj8 : ∀ a, a < 8 → ∀ b, b < 8 → nI a = nI b → a = b := by decide +kernel
theorem ow_nm1 : ∀ t, t < 128 → ¬ nI t = -1 := by decide +kernel
theorem ow_swR {n k j : Nat} {f0 f1 f2 : Nat → Int32} (h0 : ∀ a, a < n → f0 a = nI (ow_E n k a)) (e1 : f1 (ow_pa n k j n) = nI (j + 1)) (n1 : ∀ x, x ≠ ow_pa n k j n → f1 x = f0 x) (e2 : f2 (ow_pa n k (j + 1) n) = nI j) (n2 : ∀ x, x ≠ ow_pa n k (j + 1) n → f2 x = f1 x) (h : ∀ a, a < n → ow_sw n k j a = ow_E n (ow_T n k j) a) : ∀ a, a < n → f2 a = nI (ow_E n (ow_T n k j) a) := fun a ha => by
  rw [← h a ha]
  unfold ow_sw
  by_cases y1 : a = ow_pa n k (j + 1) n
  · rw [if_pos y1, y1, e2]
  by_cases y2 : a = ow_pa n k j n
  · rw [if_neg y1, if_pos y2, n2 a y1, y2, e1]
  · rw [if_neg y1, if_neg y2, n2 a y1, n1 a y2]
    exact h0 a ha
theorem ow_fnd {n T t C : Nat} (h2 : 2 ≤ n) (h5 : n ≤ 5) {fS fE fL fZ fM fR : Nat → Int32} (h : ow_J n C fS fE fL fZ fM) (hC : C ≤ ow_cn n) (ht : t < C) (hT : T < ow_cn n) (hR : ∀ a, a < n → fR a = nI (ow_E n T a)) (he : ow_eqr fE fR n t n) : t = T :=
  ow_ds h2 h5 (by omega) hT (fun a ha => ow_inj8 _ (ow_E8 n t a) _ (ow_E8 n T a) ((h.2.1 t ht a ha).symm.trans ((he a ha).trans (hR a ha))))
theorem ow_g016 (n k j t : Nat) : ow_g0 n k j t < 16 := by
  unfold ow_g0
  split
  · have h := ow_L4 n k (ow_Z n k - 1 - t)
    omega
  · exact Nat.mod_lt _ (by decide)
theorem ow_w0d {n k j t : Nat} (ht : t < ow_Z n k) : ow_dg (ow_w0 n k j) t = 9 + ow_L n k (ow_Z n k - 1 - t) := by
  unfold ow_w0
  rw [ow_dg_enc (ow_g016 n k j) _ t (by omega)]
  unfold ow_g0
  rw [if_pos ht]
theorem ow_w0z {n k j : Nat} (hj : j < 15) : ow_dg (ow_w0 n k j) (ow_Z n k) = 1 + j := by
  unfold ow_w0
  rw [ow_dg_enc (ow_g016 n k j) _ _ (by omega)]
  unfold ow_g0
  rw [if_neg (by omega), Nat.mod_eq_of_lt (by omega)]
theorem ow_pa_t {n k j t : Nat} (h : ow_E n k t = j) : ow_pa n k j (t + 1) = t := by
  rw [ow_pa]
  exact if_pos h
theorem ow_pa_f {n k j t : Nat} (h : ¬ ow_E n k t = j) : ow_pa n k j (t + 1) = ow_pa n k j t := by
  rw [ow_pa]
  exact if_neg h
theorem dX13_makeSimples_0 : decode cX13_makeSimples 0 = .ok (.iconst 2, 1) := by decide +kernel
theorem dX13_makeSimples_1 : decode cX13_makeSimples 1 = .ok (.istore_n 1, 1) := by decide +kernel
theorem dX13_makeSimples_2 : decode cX13_makeSimples 2 = .ok (.iload_n 1, 1) := by decide +kernel
theorem dX13_makeSimples_3 : decode cX13_makeSimples 3 = .ok (.iconst 5, 1) := by decide +kernel
theorem dX13_makeSimples_4 : decode cX13_makeSimples 4 = .ok (.if_icmp .gt 421, 3) := by decide +kernel
theorem dX13_makeSimples_7 : decode cX13_makeSimples 7 = .ok (.iconst 0, 1) := by decide +kernel
theorem dX13_makeSimples_8 : decode cX13_makeSimples 8 = .ok (.istore_n 2, 1) := by decide +kernel
theorem dX13_makeSimples_9 : decode cX13_makeSimples 9 = .ok (.iload_n 2, 1) := by decide +kernel
theorem dX13_makeSimples_10 : decode cX13_makeSimples 10 = .ok (.iload_n 1, 1) := by decide +kernel
theorem dX13_makeSimples_11 : decode cX13_makeSimples 11 = .ok (.if_icmp .ge 22, 3) := by decide +kernel
theorem dX13_makeSimples_14 : decode cX13_makeSimples 14 = .ok (.aload_n 0, 1) := by decide +kernel
theorem dX13_makeSimples_15 : decode cX13_makeSimples 15 = .ok (.getfield 332, 3) := by decide +kernel
theorem dX13_makeSimples_18 : decode cX13_makeSimples 18 = .ok (.sipush 600, 3) := by decide +kernel
theorem dX13_makeSimples_21 : decode cX13_makeSimples 21 = .ok (.iload_n 1, 1) := by decide +kernel
theorem dX13_makeSimples_22 : decode cX13_makeSimples 22 = .ok (.imul, 1) := by decide +kernel
theorem dX13_makeSimples_23 : decode cX13_makeSimples 23 = .ok (.iload_n 2, 1) := by decide +kernel
theorem dX13_makeSimples_24 : decode cX13_makeSimples 24 = .ok (.iadd, 1) := by decide +kernel
theorem dX13_makeSimples_25 : decode cX13_makeSimples 25 = .ok (.iload_n 2, 1) := by decide +kernel
theorem dX13_makeSimples_26 : decode cX13_makeSimples 26 = .ok (.iastore, 1) := by decide +kernel
theorem dX13_makeSimples_27 : decode cX13_makeSimples 27 = .ok (.iinc 2 1, 3) := by decide +kernel
theorem dX13_makeSimples_30 : decode cX13_makeSimples 30 = .ok (.goto (-21), 3) := by decide +kernel
theorem dX13_makeSimples_33 : decode cX13_makeSimples 33 = .ok (.aload_n 0, 1) := by decide +kernel
theorem dX13_makeSimples_34 : decode cX13_makeSimples 34 = .ok (.getfield 329, 3) := by decide +kernel
theorem dX13_makeSimples_37 : decode cX13_makeSimples 37 = .ok (.iload_n 1, 1) := by decide +kernel
theorem dX13_makeSimples_38 : decode cX13_makeSimples 38 = .ok (.iconst 1, 1) := by decide +kernel
theorem dX13_makeSimples_39 : decode cX13_makeSimples 39 = .ok (.iastore, 1) := by decide +kernel
theorem dX13_makeSimples_40 : decode cX13_makeSimples 40 = .ok (.iconst 0, 1) := by decide +kernel
theorem dX13_makeSimples_41 : decode cX13_makeSimples 41 = .ok (.istore_n 2, 1) := by decide +kernel
theorem dX13_makeSimples_42 : decode cX13_makeSimples 42 = .ok (.iload_n 2, 1) := by decide +kernel
theorem dX13_makeSimples_43 : decode cX13_makeSimples 43 = .ok (.aload_n 0, 1) := by decide +kernel
theorem dX13_makeSimples_44 : decode cX13_makeSimples 44 = .ok (.getfield 329, 3) := by decide +kernel
theorem dX13_makeSimples_47 : decode cX13_makeSimples 47 = .ok (.iload_n 1, 1) := by decide +kernel
theorem dX13_makeSimples_48 : decode cX13_makeSimples 48 = .ok (.iaload, 1) := by decide +kernel
theorem dX13_makeSimples_49 : decode cX13_makeSimples 49 = .ok (.if_icmp .ge 325, 3) := by decide +kernel
theorem dX13_makeSimples_52 : decode cX13_makeSimples 52 = .ok (.bipush 120, 2) := by decide +kernel
theorem dX13_makeSimples_54 : decode cX13_makeSimples 54 = .ok (.iload_n 1, 1) := by decide +kernel
theorem dX13_makeSimples_55 : decode cX13_makeSimples 55 = .ok (.imul, 1) := by decide +kernel
theorem dX13_makeSimples_56 : decode cX13_makeSimples 56 = .ok (.iload_n 2, 1) := by decide +kernel
theorem dX13_makeSimples_57 : decode cX13_makeSimples 57 = .ok (.iadd, 1) := by decide +kernel
theorem dX13_makeSimples_58 : decode cX13_makeSimples 58 = .ok (.istore_n 3, 1) := by decide +kernel
theorem dX13_makeSimples_59 : decode cX13_makeSimples 59 = .ok (.iconst 0, 1) := by decide +kernel
theorem dX13_makeSimples_60 : decode cX13_makeSimples 60 = .ok (.istore 4, 2) := by decide +kernel
theorem dX13_makeSimples_62 : decode cX13_makeSimples 62 = .ok (.iload 4, 2) := by decide +kernel
theorem dX13_makeSimples_64 : decode cX13_makeSimples 64 = .ok (.iload_n 1, 1) := by decide +kernel
theorem dX13_makeSimples_65 : decode cX13_makeSimples 65 = .ok (.iconst 1, 1) := by decide +kernel
theorem dX13_makeSimples_66 : decode cX13_makeSimples 66 = .ok (.isub, 1) := by decide +kernel
theorem dX13_makeSimples_67 : decode cX13_makeSimples 67 = .ok (.if_icmp .ge 301, 3) := by decide +kernel
theorem dX13_makeSimples_70 : decode cX13_makeSimples 70 = .ok (.iconst 0, 1) := by decide +kernel
theorem dX13_makeSimples_71 : decode cX13_makeSimples 71 = .ok (.istore 5, 2) := by decide +kernel
theorem dX13_makeSimples_73 : decode cX13_makeSimples 73 = .ok (.iconst 0, 1) := by decide +kernel
theorem dX13_makeSimples_74 : decode cX13_makeSimples 74 = .ok (.istore 6, 2) := by decide +kernel
theorem dX13_makeSimples_76 : decode cX13_makeSimples 76 = .ok (.iconst 0, 1) := by decide +kernel
theorem dX13_makeSimples_77 : decode cX13_makeSimples 77 = .ok (.istore 7, 2) := by decide +kernel
theorem dX13_makeSimples_79 : decode cX13_makeSimples 79 = .ok (.iload 7, 2) := by decide +kernel
theorem dX13_makeSimples_81 : decode cX13_makeSimples 81 = .ok (.iload_n 1, 1) := by decide +kernel
theorem dX13_makeSimples_82 : decode cX13_makeSimples 82 = .ok (.if_icmp .ge 71, 3) := by decide +kernel
theorem dX13_makeSimples_85 : decode cX13_makeSimples 85 = .ok (.aload_n 0, 1) := by decide +kernel
theorem dX13_makeSimples_86 : decode cX13_makeSimples 86 = .ok (.getfield 356, 3) := by decide +kernel
theorem dX13_makeSimples_89 : decode cX13_makeSimples 89 = .ok (.iload 7, 2) := by decide +kernel
theorem dX13_makeSimples_91 : decode cX13_makeSimples 91 = .ok (.aload_n 0, 1) := by decide +kernel
theorem dX13_makeSimples_92 : decode cX13_makeSimples 92 = .ok (.getfield 332, 3) := by decide +kernel
theorem dX13_makeSimples_95 : decode cX13_makeSimples 95 = .ok (.iconst 5, 1) := by decide +kernel
theorem dX13_makeSimples_96 : decode cX13_makeSimples 96 = .ok (.iload_n 3, 1) := by decide +kernel
theorem dX13_makeSimples_97 : decode cX13_makeSimples 97 = .ok (.imul, 1) := by decide +kernel
theorem dX13_makeSimples_98 : decode cX13_makeSimples 98 = .ok (.iload 7, 2) := by decide +kernel
theorem dX13_makeSimples_100 : decode cX13_makeSimples 100 = .ok (.iadd, 1) := by decide +kernel
theorem dX13_makeSimples_101 : decode cX13_makeSimples 101 = .ok (.iaload, 1) := by decide +kernel
theorem dX13_makeSimples_102 : decode cX13_makeSimples 102 = .ok (.iastore, 1) := by decide +kernel
theorem dX13_makeSimples_103 : decode cX13_makeSimples 103 = .ok (.aload_n 0, 1) := by decide +kernel
theorem dX13_makeSimples_104 : decode cX13_makeSimples 104 = .ok (.getfield 356, 3) := by decide +kernel
theorem dX13_makeSimples_107 : decode cX13_makeSimples 107 = .ok (.iload 7, 2) := by decide +kernel
theorem dX13_makeSimples_109 : decode cX13_makeSimples 109 = .ok (.iaload, 1) := by decide +kernel
theorem dX13_makeSimples_110 : decode cX13_makeSimples 110 = .ok (.iload 4, 2) := by decide +kernel
theorem dX13_makeSimples_112 : decode cX13_makeSimples 112 = .ok (.if_icmp .ne 8, 3) := by decide +kernel
theorem dX13_makeSimples_115 : decode cX13_makeSimples 115 = .ok (.iload 7, 2) := by decide +kernel
theorem dX13_makeSimples_117 : decode cX13_makeSimples 117 = .ok (.goto 5, 3) := by decide +kernel
theorem dX13_makeSimples_120 : decode cX13_makeSimples 120 = .ok (.iload 5, 2) := by decide +kernel
theorem dX13_makeSimples_122 : decode cX13_makeSimples 122 = .ok (.istore 5, 2) := by decide +kernel
theorem dX13_makeSimples_124 : decode cX13_makeSimples 124 = .ok (.aload_n 0, 1) := by decide +kernel
theorem dX13_makeSimples_125 : decode cX13_makeSimples 125 = .ok (.getfield 356, 3) := by decide +kernel
theorem dX13_makeSimples_128 : decode cX13_makeSimples 128 = .ok (.iload 7, 2) := by decide +kernel
theorem dX13_makeSimples_130 : decode cX13_makeSimples 130 = .ok (.iaload, 1) := by decide +kernel
theorem dX13_makeSimples_131 : decode cX13_makeSimples 131 = .ok (.iload 4, 2) := by decide +kernel
theorem dX13_makeSimples_133 : decode cX13_makeSimples 133 = .ok (.iconst 1, 1) := by decide +kernel
theorem dX13_makeSimples_134 : decode cX13_makeSimples 134 = .ok (.iadd, 1) := by decide +kernel
theorem dX13_makeSimples_135 : decode cX13_makeSimples 135 = .ok (.if_icmp .ne 8, 3) := by decide +kernel
theorem dX13_makeSimples_138 : decode cX13_makeSimples 138 = .ok (.iload 7, 2) := by decide +kernel
theorem dX13_makeSimples_140 : decode cX13_makeSimples 140 = .ok (.goto 5, 3) := by decide +kernel
theorem dX13_makeSimples_143 : decode cX13_makeSimples 143 = .ok (.iload 6, 2) := by decide +kernel
theorem dX13_makeSimples_145 : decode cX13_makeSimples 145 = .ok (.istore 6, 2) := by decide +kernel
theorem dX13_makeSimples_147 : decode cX13_makeSimples 147 = .ok (.iinc 7 1, 3) := by decide +kernel
theorem dX13_makeSimples_150 : decode cX13_makeSimples 150 = .ok (.goto (-71), 3) := by decide +kernel
theorem dX13_makeSimples_153 : decode cX13_makeSimples 153 = .ok (.aload_n 0, 1) := by decide +kernel
theorem dX13_makeSimples_154 : decode cX13_makeSimples 154 = .ok (.getfield 341, 3) := by decide +kernel
theorem dX13_makeSimples_157 : decode cX13_makeSimples 157 = .ok (.iconst 4, 1) := by decide +kernel
theorem dX13_makeSimples_158 : decode cX13_makeSimples 158 = .ok (.iload_n 3, 1) := by decide +kernel
theorem dX13_makeSimples_159 : decode cX13_makeSimples 159 = .ok (.imul, 1) := by decide +kernel
theorem dX13_makeSimples_160 : decode cX13_makeSimples 160 = .ok (.iload 4, 2) := by decide +kernel
theorem dX13_makeSimples_162 : decode cX13_makeSimples 162 = .ok (.iadd, 1) := by decide +kernel
theorem dX13_makeSimples_163 : decode cX13_makeSimples 163 = .ok (.iconst (-1), 1) := by decide +kernel
theorem dX13_makeSimples_164 : decode cX13_makeSimples 164 = .ok (.iastore, 1) := by decide +kernel
theorem dX13_makeSimples_165 : decode cX13_makeSimples 165 = .ok (.iload 5, 2) := by decide +kernel
theorem dX13_makeSimples_167 : decode cX13_makeSimples 167 = .ok (.iload 6, 2) := by decide +kernel
theorem dX13_makeSimples_169 : decode cX13_makeSimples 169 = .ok (.if_icmp .ge 193, 3) := by decide +kernel
theorem dX13_makeSimples_172 : decode cX13_makeSimples 172 = .ok (.aload_n 0, 1) := by decide +kernel
theorem dX13_makeSimples_173 : decode cX13_makeSimples 173 = .ok (.getfield 356, 3) := by decide +kernel
theorem dX13_makeSimples_176 : decode cX13_makeSimples 176 = .ok (.iload 5, 2) := by decide +kernel
theorem dX13_makeSimples_178 : decode cX13_makeSimples 178 = .ok (.iload 4, 2) := by decide +kernel
theorem dX13_makeSimples_180 : decode cX13_makeSimples 180 = .ok (.iconst 1, 1) := by decide +kernel
theorem dX13_makeSimples_181 : decode cX13_makeSimples 181 = .ok (.iadd, 1) := by decide +kernel
theorem dX13_makeSimples_182 : decode cX13_makeSimples 182 = .ok (.iastore, 1) := by decide +kernel
theorem dX13_makeSimples_183 : decode cX13_makeSimples 183 = .ok (.aload_n 0, 1) := by decide +kernel
theorem dX13_makeSimples_184 : decode cX13_makeSimples 184 = .ok (.getfield 356, 3) := by decide +kernel
theorem dX13_makeSimples_187 : decode cX13_makeSimples 187 = .ok (.iload 6, 2) := by decide +kernel
theorem dX13_makeSimples_189 : decode cX13_makeSimples 189 = .ok (.iload 4, 2) := by decide +kernel
theorem dX13_makeSimples_191 : decode cX13_makeSimples 191 = .ok (.iastore, 1) := by decide +kernel
theorem dX13_makeSimples_192 : decode cX13_makeSimples 192 = .ok (.aload_n 0, 1) := by decide +kernel
theorem dX13_makeSimples_193 : decode cX13_makeSimples 193 = .ok (.iload_n 1, 1) := by decide +kernel
theorem dX13_makeSimples_194 : decode cX13_makeSimples 194 = .ok (.aload_n 0, 1) := by decide +kernel
theorem dX13_makeSimples_195 : decode cX13_makeSimples 195 = .ok (.getfield 356, 3) := by decide +kernel
theorem dX13_makeSimples_198 : decode cX13_makeSimples 198 = .ok (.invokevirtual 724, 3) := by decide +kernel
theorem dX13_makeSimples_201 : decode cX13_makeSimples 201 = .ok (.istore 7, 2) := by decide +kernel
theorem dX13_makeSimples_203 : decode cX13_makeSimples 203 = .ok (.iload 7, 2) := by decide +kernel
theorem dX13_makeSimples_205 : decode cX13_makeSimples 205 = .ok (.iconst (-1), 1) := by decide +kernel
theorem dX13_makeSimples_206 : decode cX13_makeSimples 206 = .ok (.if_icmp .ne 143, 3) := by decide +kernel
theorem dX13_makeSimples_209 : decode cX13_makeSimples 209 = .ok (.aload_n 0, 1) := by decide +kernel
theorem dX13_makeSimples_210 : decode cX13_makeSimples 210 = .ok (.getfield 329, 3) := by decide +kernel
theorem dX13_makeSimples_213 : decode cX13_makeSimples 213 = .ok (.iload_n 1, 1) := by decide +kernel
theorem dX13_makeSimples_214 : decode cX13_makeSimples 214 = .ok (.iaload, 1) := by decide +kernel
theorem dX13_makeSimples_215 : decode cX13_makeSimples 215 = .ok (.istore 7, 2) := by decide +kernel
theorem dX13_makeSimples_217 : decode cX13_makeSimples 217 = .ok (.bipush 120, 2) := by decide +kernel
theorem dX13_makeSimples_219 : decode cX13_makeSimples 219 = .ok (.iload_n 1, 1) := by decide +kernel
theorem dX13_makeSimples_220 : decode cX13_makeSimples 220 = .ok (.imul, 1) := by decide +kernel
theorem dX13_makeSimples_221 : decode cX13_makeSimples 221 = .ok (.iload 7, 2) := by decide +kernel
theorem dX13_makeSimples_223 : decode cX13_makeSimples 223 = .ok (.iadd, 1) := by decide +kernel
theorem dX13_makeSimples_224 : decode cX13_makeSimples 224 = .ok (.istore 8, 2) := by decide +kernel
theorem dX13_makeSimples_226 : decode cX13_makeSimples 226 = .ok (.iconst 0, 1) := by decide +kernel
theorem dX13_makeSimples_227 : decode cX13_makeSimples 227 = .ok (.istore 9, 2) := by decide +kernel
theorem dX13_makeSimples_229 : decode cX13_makeSimples 229 = .ok (.iload 9, 2) := by decide +kernel
theorem dX13_makeSimples_231 : decode cX13_makeSimples 231 = .ok (.iload_n 1, 1) := by decide +kernel
theorem dX13_makeSimples_232 : decode cX13_makeSimples 232 = .ok (.if_icmp .ge 28, 3) := by decide +kernel
theorem dX13_makeSimples_235 : decode cX13_makeSimples 235 = .ok (.aload_n 0, 1) := by decide +kernel
theorem dX13_makeSimples_236 : decode cX13_makeSimples 236 = .ok (.getfield 332, 3) := by decide +kernel
theorem dX13_makeSimples_239 : decode cX13_makeSimples 239 = .ok (.iconst 5, 1) := by decide +kernel
theorem dX13_makeSimples_240 : decode cX13_makeSimples 240 = .ok (.iload 8, 2) := by decide +kernel
theorem dX13_makeSimples_242 : decode cX13_makeSimples 242 = .ok (.imul, 1) := by decide +kernel
theorem dX13_makeSimples_243 : decode cX13_makeSimples 243 = .ok (.iload 9, 2) := by decide +kernel
theorem dX13_makeSimples_245 : decode cX13_makeSimples 245 = .ok (.iadd, 1) := by decide +kernel
theorem dX13_makeSimples_246 : decode cX13_makeSimples 246 = .ok (.aload_n 0, 1) := by decide +kernel
theorem dX13_makeSimples_247 : decode cX13_makeSimples 247 = .ok (.getfield 356, 3) := by decide +kernel
theorem dX13_makeSimples_250 : decode cX13_makeSimples 250 = .ok (.iload 9, 2) := by decide +kernel
theorem dX13_makeSimples_252 : decode cX13_makeSimples 252 = .ok (.iaload, 1) := by decide +kernel
theorem dX13_makeSimples_253 : decode cX13_makeSimples 253 = .ok (.iastore, 1) := by decide +kernel
theorem dX13_makeSimples_254 : decode cX13_makeSimples 254 = .ok (.iinc 9 1, 3) := by decide +kernel
theorem dX13_makeSimples_257 : decode cX13_makeSimples 257 = .ok (.goto (-28), 3) := by decide +kernel
theorem dX13_makeSimples_260 : decode cX13_makeSimples 260 = .ok (.aload_n 0, 1) := by decide +kernel
theorem dX13_makeSimples_261 : decode cX13_makeSimples 261 = .ok (.getfield 338, 3) := by decide +kernel
theorem dX13_makeSimples_264 : decode cX13_makeSimples 264 = .ok (.iload 8, 2) := by decide +kernel
theorem dX13_makeSimples_266 : decode cX13_makeSimples 266 = .ok (.aload_n 0, 1) := by decide +kernel
theorem dX13_makeSimples_267 : decode cX13_makeSimples 267 = .ok (.getfield 338, 3) := by decide +kernel
theorem dX13_makeSimples_270 : decode cX13_makeSimples 270 = .ok (.iload_n 3, 1) := by decide +kernel
theorem dX13_makeSimples_271 : decode cX13_makeSimples 271 = .ok (.iaload, 1) := by decide +kernel
theorem dX13_makeSimples_272 : decode cX13_makeSimples 272 = .ok (.iconst 1, 1) := by decide +kernel
theorem dX13_makeSimples_273 : decode cX13_makeSimples 273 = .ok (.iadd, 1) := by decide +kernel
theorem dX13_makeSimples_274 : decode cX13_makeSimples 274 = .ok (.iastore, 1) := by decide +kernel
theorem dX13_makeSimples_275 : decode cX13_makeSimples 275 = .ok (.iconst 0, 1) := by decide +kernel
theorem dX13_makeSimples_276 : decode cX13_makeSimples 276 = .ok (.istore 9, 2) := by decide +kernel
theorem dX13_makeSimples_278 : decode cX13_makeSimples 278 = .ok (.iload 9, 2) := by decide +kernel
theorem dX13_makeSimples_280 : decode cX13_makeSimples 280 = .ok (.aload_n 0, 1) := by decide +kernel
theorem dX13_makeSimples_281 : decode cX13_makeSimples 281 = .ok (.getfield 338, 3) := by decide +kernel
theorem dX13_makeSimples_284 : decode cX13_makeSimples 284 = .ok (.iload_n 3, 1) := by decide +kernel
theorem dX13_makeSimples_285 : decode cX13_makeSimples 285 = .ok (.iaload, 1) := by decide +kernel
theorem dX13_makeSimples_286 : decode cX13_makeSimples 286 = .ok (.if_icmp .ge 34, 3) := by decide +kernel
theorem dX13_makeSimples_289 : decode cX13_makeSimples 289 = .ok (.aload_n 0, 1) := by decide +kernel
theorem dX13_makeSimples_290 : decode cX13_makeSimples 290 = .ok (.getfield 335, 3) := by decide +kernel
theorem dX13_makeSimples_293 : decode cX13_makeSimples 293 = .ok (.bipush 10, 2) := by decide +kernel
theorem dX13_makeSimples_295 : decode cX13_makeSimples 295 = .ok (.iload 8, 2) := by decide +kernel
theorem dX13_makeSimples_297 : decode cX13_makeSimples 297 = .ok (.imul, 1) := by decide +kernel
theorem dX13_makeSimples_298 : decode cX13_makeSimples 298 = .ok (.iload 9, 2) := by decide +kernel
theorem dX13_makeSimples_300 : decode cX13_makeSimples 300 = .ok (.iadd, 1) := by decide +kernel
theorem dX13_makeSimples_301 : decode cX13_makeSimples 301 = .ok (.aload_n 0, 1) := by decide +kernel
theorem dX13_makeSimples_302 : decode cX13_makeSimples 302 = .ok (.getfield 335, 3) := by decide +kernel
theorem dX13_makeSimples_305 : decode cX13_makeSimples 305 = .ok (.bipush 10, 2) := by decide +kernel
theorem dX13_makeSimples_307 : decode cX13_makeSimples 307 = .ok (.iload_n 3, 1) := by decide +kernel
theorem dX13_makeSimples_308 : decode cX13_makeSimples 308 = .ok (.imul, 1) := by decide +kernel
theorem dX13_makeSimples_309 : decode cX13_makeSimples 309 = .ok (.iload 9, 2) := by decide +kernel
theorem dX13_makeSimples_311 : decode cX13_makeSimples 311 = .ok (.iadd, 1) := by decide +kernel
theorem dX13_makeSimples_312 : decode cX13_makeSimples 312 = .ok (.iaload, 1) := by decide +kernel
theorem dX13_makeSimples_313 : decode cX13_makeSimples 313 = .ok (.iastore, 1) := by decide +kernel
theorem dX13_makeSimples_314 : decode cX13_makeSimples 314 = .ok (.iinc 9 1, 3) := by decide +kernel
theorem dX13_makeSimples_317 : decode cX13_makeSimples 317 = .ok (.goto (-39), 3) := by decide +kernel
theorem dX13_makeSimples_320 : decode cX13_makeSimples 320 = .ok (.aload_n 0, 1) := by decide +kernel
theorem dX13_makeSimples_321 : decode cX13_makeSimples 321 = .ok (.getfield 335, 3) := by decide +kernel
theorem dX13_makeSimples_324 : decode cX13_makeSimples 324 = .ok (.bipush 10, 2) := by decide +kernel
theorem dX13_makeSimples_326 : decode cX13_makeSimples 326 = .ok (.iload 8, 2) := by decide +kernel
theorem dX13_makeSimples_328 : decode cX13_makeSimples 328 = .ok (.imul, 1) := by decide +kernel
theorem dX13_makeSimples_329 : decode cX13_makeSimples 329 = .ok (.aload_n 0, 1) := by decide +kernel
theorem dX13_makeSimples_330 : decode cX13_makeSimples 330 = .ok (.getfield 338, 3) := by decide +kernel
theorem dX13_makeSimples_333 : decode cX13_makeSimples 333 = .ok (.iload_n 3, 1) := by decide +kernel
theorem dX13_makeSimples_334 : decode cX13_makeSimples 334 = .ok (.iaload, 1) := by decide +kernel
theorem dX13_makeSimples_335 : decode cX13_makeSimples 335 = .ok (.iadd, 1) := by decide +kernel
theorem dX13_makeSimples_336 : decode cX13_makeSimples 336 = .ok (.iload 4, 2) := by decide +kernel
theorem dX13_makeSimples_338 : decode cX13_makeSimples 338 = .ok (.iastore, 1) := by decide +kernel
theorem dX13_makeSimples_339 : decode cX13_makeSimples 339 = .ok (.aload_n 0, 1) := by decide +kernel
theorem dX13_makeSimples_340 : decode cX13_makeSimples 340 = .ok (.getfield 329, 3) := by decide +kernel
theorem dX13_makeSimples_343 : decode cX13_makeSimples 343 = .ok (.iload_n 1, 1) := by decide +kernel
theorem dX13_makeSimples_344 : decode cX13_makeSimples 344 = .ok (.dup2, 1) := by decide +kernel
theorem dX13_makeSimples_345 : decode cX13_makeSimples 345 = .ok (.iaload, 1) := by decide +kernel
theorem dX13_makeSimples_346 : decode cX13_makeSimples 346 = .ok (.iconst 1, 1) := by decide +kernel
theorem dX13_makeSimples_347 : decode cX13_makeSimples 347 = .ok (.iadd, 1) := by decide +kernel
theorem dX13_makeSimples_348 : decode cX13_makeSimples 348 = .ok (.iastore, 1) := by decide +kernel
theorem dX13_makeSimples_349 : decode cX13_makeSimples 349 = .ok (.aload_n 0, 1) := by decide +kernel
theorem dX13_makeSimples_350 : decode cX13_makeSimples 350 = .ok (.getfield 341, 3) := by decide +kernel
theorem dX13_makeSimples_353 : decode cX13_makeSimples 353 = .ok (.iconst 4, 1) := by decide +kernel
theorem dX13_makeSimples_354 : decode cX13_makeSimples 354 = .ok (.iload_n 3, 1) := by decide +kernel
theorem dX13_makeSimples_355 : decode cX13_makeSimples 355 = .ok (.imul, 1) := by decide +kernel
theorem dX13_makeSimples_356 : decode cX13_makeSimples 356 = .ok (.iload 4, 2) := by decide +kernel
theorem dX13_makeSimples_358 : decode cX13_makeSimples 358 = .ok (.iadd, 1) := by decide +kernel
theorem dX13_makeSimples_359 : decode cX13_makeSimples 359 = .ok (.iload 7, 2) := by decide +kernel
theorem dX13_makeSimples_361 : decode cX13_makeSimples 361 = .ok (.iastore, 1) := by decide +kernel
theorem dX13_makeSimples_362 : decode cX13_makeSimples 362 = .ok (.iinc 4 1, 3) := by decide +kernel
theorem dX13_makeSimples_365 : decode cX13_makeSimples 365 = .ok (.goto (-303), 3) := by decide +kernel
theorem dX13_makeSimples_368 : decode cX13_makeSimples 368 = .ok (.iinc 2 1, 3) := by decide +kernel
theorem dX13_makeSimples_371 : decode cX13_makeSimples 371 = .ok (.goto (-329), 3) := by decide +kernel
theorem dX13_makeSimples_374 : decode cX13_makeSimples 374 = .ok (.aload_n 0, 1) := by decide +kernel
theorem dX13_makeSimples_375 : decode cX13_makeSimples 375 = .ok (.iload_n 1, 1) := by decide +kernel
theorem dX13_makeSimples_376 : decode cX13_makeSimples 376 = .ok (.invokevirtual 728, 3) := by decide +kernel
theorem dX13_makeSimples_379 : decode cX13_makeSimples 379 = .ok (.iconst 0, 1) := by decide +kernel
theorem dX13_makeSimples_380 : decode cX13_makeSimples 380 = .ok (.istore_n 2, 1) := by decide +kernel
theorem dX13_makeSimples_381 : decode cX13_makeSimples 381 = .ok (.iload_n 2, 1) := by decide +kernel
theorem dX13_makeSimples_382 : decode cX13_makeSimples 382 = .ok (.aload_n 0, 1) := by decide +kernel
theorem dX13_makeSimples_383 : decode cX13_makeSimples 383 = .ok (.getfield 329, 3) := by decide +kernel
theorem dX13_makeSimples_386 : decode cX13_makeSimples 386 = .ok (.iload_n 1, 1) := by decide +kernel
theorem dX13_makeSimples_387 : decode cX13_makeSimples 387 = .ok (.iaload, 1) := by decide +kernel
theorem dX13_makeSimples_388 : decode cX13_makeSimples 388 = .ok (.if_icmp .ge 31, 3) := by decide +kernel
theorem dX13_makeSimples_391 : decode cX13_makeSimples 391 = .ok (.iconst 0, 1) := by decide +kernel
theorem dX13_makeSimples_392 : decode cX13_makeSimples 392 = .ok (.istore_n 3, 1) := by decide +kernel
theorem dX13_makeSimples_393 : decode cX13_makeSimples 393 = .ok (.iload_n 3, 1) := by decide +kernel
theorem dX13_makeSimples_394 : decode cX13_makeSimples 394 = .ok (.iload_n 1, 1) := by decide +kernel
theorem dX13_makeSimples_395 : decode cX13_makeSimples 395 = .ok (.iconst 1, 1) := by decide +kernel
theorem dX13_makeSimples_396 : decode cX13_makeSimples 396 = .ok (.isub, 1) := by decide +kernel
theorem dX13_makeSimples_397 : decode cX13_makeSimples 397 = .ok (.if_icmp .ge 16, 3) := by decide +kernel
theorem dX13_makeSimples_400 : decode cX13_makeSimples 400 = .ok (.aload_n 0, 1) := by decide +kernel
theorem dX13_makeSimples_401 : decode cX13_makeSimples 401 = .ok (.iload_n 1, 1) := by decide +kernel
theorem dX13_makeSimples_402 : decode cX13_makeSimples 402 = .ok (.iload_n 2, 1) := by decide +kernel
theorem dX13_makeSimples_403 : decode cX13_makeSimples 403 = .ok (.iload_n 3, 1) := by decide +kernel
theorem dX13_makeSimples_404 : decode cX13_makeSimples 404 = .ok (.invokevirtual 731, 3) := by decide +kernel
theorem dX13_makeSimples_407 : decode cX13_makeSimples 407 = .ok (.iinc 3 1, 3) := by decide +kernel
theorem dX13_makeSimples_410 : decode cX13_makeSimples 410 = .ok (.goto (-17), 3) := by decide +kernel
theorem dX13_makeSimples_413 : decode cX13_makeSimples 413 = .ok (.iinc 2 1, 3) := by decide +kernel
theorem dX13_makeSimples_416 : decode cX13_makeSimples 416 = .ok (.goto (-35), 3) := by decide +kernel
theorem dX13_makeSimples_419 : decode cX13_makeSimples 419 = .ok (.iinc 1 1, 3) := by decide +kernel
theorem dX13_makeSimples_422 : decode cX13_makeSimples 422 = .ok (.goto (-420), 3) := by decide +kernel
theorem dX13_makeSimples_425 : decode cX13_makeSimples 425 = .ok (.return_, 1) := by decide +kernel
def wf_MmakeSimples : List Cond := .code yX13_makeSimples cX13_makeSimples 10 none :: ([.fieldLink RX13 329 "KnotHouseModel" "simples" "[I", .fieldLink RX13 332 "KnotHouseModel" "ends" "[I", .fieldLink RX13 335 "KnotHouseModel" "letters" "[I", .fieldLink RX13 338 "KnotHouseModel" "sizes" "[I", .fieldLink RX13 341 "KnotHouseModel" "more" "[I", .fieldLink RX13 356 "KnotHouseModel" "endRow" "[I"] ++ wsX130 ++ (wsV RX13 724 RX13 yX13_find wf_Mfind ++ (wsV RX13 728 RX13 yX13_makeTurned wf_MmakeTurned ++ wsV RX13 731 RX13 yX13_turnRound wf_MturnRound)))
theorem gf_X13_makeSimples_a : GoodIn wf_MmakeSimples (wsV RX13 724 RX13 yX13_find wf_Mfind) := goodIn_sub (fun _ h => List.mem_cons_of_mem _ (List.mem_append_right _ (List.mem_append_left _ h))) (by decide +kernel)
theorem gf_X13_makeSimples_b : GoodIn wf_MmakeSimples (wsV RX13 728 RX13 yX13_makeTurned wf_MmakeTurned) := goodIn_sub (fun _ h => List.mem_cons_of_mem _ (List.mem_append_right _ (List.mem_append_right _ (List.mem_append_left _ h)))) (by decide +kernel)
theorem gf_X13_makeSimples_c : GoodIn wf_MmakeSimples (wsV RX13 731 RX13 yX13_turnRound wf_MturnRound) := goodIn_sub (fun _ h => List.mem_cons_of_mem _ (List.mem_append_right _ (List.mem_append_right _ (List.mem_append_right _ h)))) (by decide +kernel)
set_option maxHeartbeats 4000000 in
set_option maxRecDepth 100000 in
theorem kf_X13_makeSimples (l : Launch) (dC : Nat → ClassId) (dI : Nat → Nat → Nat) (cI cB cJ cZ : ClassId) (h0 aS aE aL aZ aM aA aO aP aV aR aG : Nat) (fs : List Value) (hfs : fs.length = 120) (hkaS : fs[96]? = some (.ref aS)) (hkaE : fs[97]? = some (.ref aE)) (hkaL : fs[98]? = some (.ref aL)) (hkaZ : fs[99]? = some (.ref aZ)) (hkaM : fs[100]? = some (.ref aM)) (hkaA : fs[101]? = some (.ref aA)) (hkaO : fs[102]? = some (.ref aO)) (hkaP : fs[103]? = some (.ref aP)) (hkaV : fs[104]? = some (.ref aV)) (hkaR : fs[105]? = some (.ref aR)) (hkaG : fs[106]? = some (.ref aG)) (fS fE fL fZ fM fA fO fP fV fR fG : Nat → Int32) (hZ0 : ∀ x, 2 ≤ x → x ≤ 5 → fZ (120 * x) = nI 0) (hM0 : ∀ i, i < 2880 → ∃ r, r ≤ 120 ∧ fM i = nI r - 1) (sz : Nat) : Met l yX13_makeSimples wf_MmakeSimples (({ frames := 3, cells := 0, slots := 0, locals := 120 } : Room)) (va_Pc [.ref h0] (fun U => U.heap.size = sz ∧ va_P (dC, dI) vwCl [(h0, .inr (16, fs)), (aS, .inl (cI, 6, .inl fS)), (aE, .inl (cI, 3600, .inl fE)), (aL, .inl (cI, 7200, .inl fL)), (aZ, .inl (cI, 720, .inl fZ)), (aM, .inl (cI, 2880, .inl fM)), (aA, .inl (cI, 720, .inl fA)), (aO, .inl (cI, 720, .inl fO)), (aP, .inl (cI, 2880, .inl fP)), (aV, .inl (cI, 2880, .inl fV)), (aR, .inl (cI, 5, .inl fR)), (aG, .inl (cI, 400, .inl fG))] U.heap ∧ va_K (dC, dI) vwCl [(cI, .int), (cB, .byte), (cJ, .long), (cZ, .boolean)] U ∧ va_D (fun _ => True) [(h0, .inr (16, fs)), (aS, .inl (cI, 6, .inl fS)), (aE, .inl (cI, 3600, .inl fE)), (aL, .inl (cI, 7200, .inl fL)), (aZ, .inl (cI, 720, .inl fZ)), (aM, .inl (cI, 2880, .inl fM)), (aA, .inl (cI, 720, .inl fA)), (aO, .inl (cI, 720, .inl fO)), (aP, .inl (cI, 2880, .inl fP)), (aV, .inl (cI, 2880, .inl fV)), (aR, .inl (cI, 5, .inl fR)), (aG, .inl (cI, 400, .inl fG))])) (va_Qv (fun g : (Nat → Int32) × (Nat → Int32) × (Nat → Int32) × (Nat → Int32) × (Nat → Int32) × (Nat → Int32) × (Nat → Int32) × (Nat → Int32) × (Nat → Int32) × (Nat → Int32) × (Nat → Int32) => True) (fun g t => va_P (dC, dI) vwCl [(h0, .inr (16, fs)), (aS, .inl (cI, 6, .inl g.1)), (aE, .inl (cI, 3600, .inl g.2.1)), (aL, .inl (cI, 7200, .inl g.2.2.1)), (aZ, .inl (cI, 720, .inl g.2.2.2.1)), (aM, .inl (cI, 2880, .inl g.2.2.2.2.1)), (aA, .inl (cI, 720, .inl g.2.2.2.2.2.1)), (aO, .inl (cI, 720, .inl g.2.2.2.2.2.2.1)), (aP, .inl (cI, 2880, .inl g.2.2.2.2.2.2.2.1)), (aV, .inl (cI, 2880, .inl g.2.2.2.2.2.2.2.2.1)), (aR, .inl (cI, 5, .inl g.2.2.2.2.2.2.2.2.2.1)), (aG, .inl (cI, 400, .inl g.2.2.2.2.2.2.2.2.2.2))] t.heap ∧ va_D (va_A [(h0, .inr (16, fs)), (aS, .inl (cI, 6, .inl fS)), (aE, .inl (cI, 3600, .inl fE)), (aL, .inl (cI, 7200, .inl fL)), (aZ, .inl (cI, 720, .inl fZ)), (aM, .inl (cI, 2880, .inl fM)), (aA, .inl (cI, 720, .inl fA)), (aO, .inl (cI, 720, .inl fO)), (aP, .inl (cI, 2880, .inl fP)), (aV, .inl (cI, 2880, .inl fV)), (aR, .inl (cI, 5, .inl fR)), (aG, .inl (cI, 400, .inl fG))] sz) [(h0, .inr (16, fs)), (aS, .inl (cI, 6, .inl g.1)), (aE, .inl (cI, 3600, .inl g.2.1)), (aL, .inl (cI, 7200, .inl g.2.2.1)), (aZ, .inl (cI, 720, .inl g.2.2.2.1)), (aM, .inl (cI, 2880, .inl g.2.2.2.2.1)), (aA, .inl (cI, 720, .inl g.2.2.2.2.2.1)), (aO, .inl (cI, 720, .inl g.2.2.2.2.2.2.1)), (aP, .inl (cI, 2880, .inl g.2.2.2.2.2.2.2.1)), (aV, .inl (cI, 2880, .inl g.2.2.2.2.2.2.2.2.1)), (aR, .inl (cI, 5, .inl g.2.2.2.2.2.2.2.2.2.1)), (aG, .inl (cI, 400, .inl g.2.2.2.2.2.2.2.2.2.2))]) (va_A [(h0, .inr (16, fs)), (aS, .inl (cI, 6, .inl fS)), (aE, .inl (cI, 3600, .inl fE)), (aL, .inl (cI, 7200, .inl fL)), (aZ, .inl (cI, 720, .inl fZ)), (aM, .inl (cI, 2880, .inl fM)), (aA, .inl (cI, 720, .inl fA)), (aO, .inl (cI, 720, .inl fO)), (aP, .inl (cI, 2880, .inl fP)), (aV, .inl (cI, 2880, .inl fV)), (aR, .inl (cI, 5, .inl fR)), (aG, .inl (cI, 400, .inl fG))] sz)) 0 0 (va_A [(h0, .inr (16, fs)), (aS, .inl (cI, 6, .inl fS)), (aE, .inl (cI, 3600, .inl fE)), (aL, .inl (cI, 7200, .inl fL)), (aZ, .inl (cI, 720, .inl fZ)), (aM, .inl (cI, 2880, .inl fM)), (aA, .inl (cI, 720, .inl fA)), (aO, .inl (cI, 720, .inl fO)), (aP, .inl (cI, 2880, .inl fP)), (aV, .inl (cI, 2880, .inl fV)), (aR, .inl (cI, 5, .inl fR)), (aG, .inl (cI, 400, .inl fG))] sz) := by
  refine Met.ofW (cc := cX13_makeSimples) (maxL := 10) (ret := none) (by decide) rfl ?_
  intro p e s m args below meth c s₁ B hml hv
  obtain ⟨rfl, hsz, hP, hK, hD0⟩ := hv
  have hx := B.exec
  have hb := B.bytes
  have hr := B.returns
  have hts := atoms_spec (ws := wf_MmakeSimples) B.pre
  have hown : s.vm.findClass RX13 = some m.cls := findClass_of_methodNamed B.named
  have hlocks := B.notSynchronized
  subst hsz
  have hD := hD0.self (sz := s.heap.size)
  generalize hAe : va_A [(h0, .inr (16, fs)), (aS, .inl (cI, 6, .inl fS)), (aE, .inl (cI, 3600, .inl fE)), (aL, .inl (cI, 7200, .inl fL)), (aZ, .inl (cI, 720, .inl fZ)), (aM, .inl (cI, 2880, .inl fM)), (aA, .inl (cI, 720, .inl fA)), (aO, .inl (cI, 720, .inl fO)), (aP, .inl (cI, 2880, .inl fP)), (aV, .inl (cI, 2880, .inl fV)), (aR, .inl (cI, 5, .inl fR)), (aG, .inl (cI, 400, .inl fG))] s.heap.size = A at hD ⊢
  have hA : ∀ q : Nat, s.heap.size ≤ q → A q := fun q h => by rw [← hAe]; exact Or.inr h
  have hS : va_S A s.heap s.heap [] := va_S.rf
  have hP : va_P (dC, dI) vwCl [(h0, .inr (16, fs)), (aS, .inl (cI, 6, .inl fS)), (aE, .inl (cI, 3600, .inl fE)), (aL, .inl (cI, 7200, .inl fL)), (aZ, .inl (cI, 720, .inl fZ)), (aM, .inl (cI, 2880, .inl fM)), (aA, .inl (cI, 720, .inl fA)), (aO, .inl (cI, 720, .inl fO)), (aP, .inl (cI, 2880, .inl fP)), (aV, .inl (cI, 2880, .inl fV)), (aR, .inl (cI, 5, .inl fR)), (aG, .inl (cI, 400, .inl fG))] s.heap := hP
  have hl := lv_entry ([.ref h0]) (n := 10) (Nat.le_of_ble_eq_true rfl)
  rw [lg_entry_eq]
  generalize (lg_sl ([.ref h0]) ++ List.replicate (10 - (lg_sl ([.ref h0])).length) Slot.unset).toArray = ls at hl ⊢
  have hl : lv_has ls 10 [(0, .ref h0)] := hl
  refine ow_named (fun QQ hQQ => ?_)
  have L2 : ∀ (d n : Nat), n + d = 6 → 2 ≤ n → ∀ (H : Heap) (locs : List Loc) (ls : Array Slot) (fS fE fL fZ fM fA fO fP fV fR fG : Nat → Int32), va_P (dC, dI) vwCl [(h0, .inr (16, fs)), (aS, .inl (cI, 6, .inl fS)), (aE, .inl (cI, 3600, .inl fE)), (aL, .inl (cI, 7200, .inl fL)), (aZ, .inl (cI, 720, .inl fZ)), (aM, .inl (cI, 2880, .inl fM)), (aA, .inl (cI, 720, .inl fA)), (aO, .inl (cI, 720, .inl fO)), (aP, .inl (cI, 2880, .inl fP)), (aV, .inl (cI, 2880, .inl fV)), (aR, .inl (cI, 5, .inl fR)), (aG, .inl (cI, 400, .inl fG))] H → va_D A [(h0, .inr (16, fs)), (aS, .inl (cI, 6, .inl fS)), (aE, .inl (cI, 3600, .inl fE)), (aL, .inl (cI, 7200, .inl fL)), (aZ, .inl (cI, 720, .inl fZ)), (aM, .inl (cI, 2880, .inl fM)), (aA, .inl (cI, 720, .inl fA)), (aO, .inl (cI, 720, .inl fO)), (aP, .inl (cI, 2880, .inl fP)), (aV, .inl (cI, 2880, .inl fV)), (aR, .inl (cI, 5, .inl fR)), (aG, .inl (cI, 400, .inl fG))] → va_S A s.heap H locs → lv_has ls 10 [(0, .ref h0), (1, .int (nI n))] → (∀ x, n ≤ x → x ≤ 5 → fZ (120 * x) = nI 0) → (∀ i, i < 2880 → ∃ r, r ≤ 120 ∧ fM i = nI r - 1) → W p l e ({ frames := 3, cells := 0, slots := 0, locals := 120 } : Room) s m ([.ref h0] : List Value).toArray below meth c H locs 0 0 QQ (F0 m 2 ls []) := by
    intro d
    induction d with
    | zero =>
      intro n hv_n h2 H locs ls fS fE fL fZ fM fA fO fP fV fR fG hP hD hS hl hZ0 hM0
      obtain rfl : n = 6 := by omega
      refine lv_iload_n hx hb dX13_makeSimples_2 rfl (lv_at hl 1 rfl) ?_
      refine lv_iconst (v := 5) hx hb dX13_makeSimples_3 (by decide) ?_
      refine lv_icmp_gt (tgt := 425) hx hb dX13_makeSimples_4 (by decide) (fun _ => ?_) (fun c9 => absurd (by decide) c9)
      rw [hQQ]
      exact W.vret hx hb hr (fun t ht hW => ⟨⟨(fS, fE, fL, fZ, fM, fA, fO, fP, fV, fR, fG), rfl, trivial, by rw [ht]; exact hP, hD⟩, hS.F ht⟩) hS.2.2 dX13_makeSimples_425
    | succ d ih_n =>
      intro n hv_n h2 H locs ls fS fE fL fZ fM fA fO fP fV fR fG hP hD hS hl hZ0 hM0
      have h5 : n ≤ 5 := by omega
      obtain ⟨hcn1, hcn2⟩ := ow_cn120 n
      have hfr := ow_fr h2 h5
      have L381 : ∀ (d k : Nat), k + d = ow_cn n → ∀ (H : Heap) (locs : List Loc) (ls : Array Slot) (fS fE fL fZ fM fA fO fP fV fR fG : Nat → Int32), va_P (dC, dI) vwCl [(h0, .inr (16, fs)), (aS, .inl (cI, 6, .inl fS)), (aE, .inl (cI, 3600, .inl fE)), (aL, .inl (cI, 7200, .inl fL)), (aZ, .inl (cI, 720, .inl fZ)), (aM, .inl (cI, 2880, .inl fM)), (aA, .inl (cI, 720, .inl fA)), (aO, .inl (cI, 720, .inl fO)), (aP, .inl (cI, 2880, .inl fP)), (aV, .inl (cI, 2880, .inl fV)), (aR, .inl (cI, 5, .inl fR)), (aG, .inl (cI, 400, .inl fG))] H → va_D A [(h0, .inr (16, fs)), (aS, .inl (cI, 6, .inl fS)), (aE, .inl (cI, 3600, .inl fE)), (aL, .inl (cI, 7200, .inl fL)), (aZ, .inl (cI, 720, .inl fZ)), (aM, .inl (cI, 2880, .inl fM)), (aA, .inl (cI, 720, .inl fA)), (aO, .inl (cI, 720, .inl fO)), (aP, .inl (cI, 2880, .inl fP)), (aV, .inl (cI, 2880, .inl fV)), (aR, .inl (cI, 5, .inl fR)), (aG, .inl (cI, 400, .inl fG))] → va_S A s.heap H locs → lv_has ls 10 [(0, .ref h0), (1, .int (nI n)), (2, .int (nI k))] → ow_J n (ow_cn n) fS fE fL fZ fM → W p l e ({ frames := 3, cells := 0, slots := 0, locals := 120 } : Room) s m ([.ref h0] : List Value).toArray below meth c H locs 0 0 QQ (F0 m 381 ls []) := by
        intro d
        induction d with
        | zero =>
          intro k hv_k H locs ls fS fE fL fZ fM fA fO fP fV fR fG hP hD hS hl hJ
          refine lv_iload_n hx hb dX13_makeSimples_381 rfl (lv_at hl 2 rfl) ?_
          refine lv_aload_n hx hb dX13_makeSimples_382 rfl (lv_at hl 0 rfl) ?_
          refine va_get (D := (dC, dI)) (ci := 16) (v := .ref aS) (C := RX13) (T := TX13) (N := 120) hx hb hts (fun _ h => List.mem_cons_of_mem _ (List.mem_append_left _ (List.mem_append_right _ h))) hown hK hP 0 rfl rfl 96 (by decide) (hts (.fieldLink RX13 329 "KnotHouseModel" "simples" "[I") (by decide +kernel)) (fun _ h9 => h9) hkaS dX13_makeSimples_383 ?_
          refine lv_iload_n hx hb dX13_makeSimples_386 rfl (lv_at hl 1 rfl) ?_
          refine va_iald hx hb hK hP 1 0 rfl rfl (vp_in_nI (n := n) (N := 6) (by omega) (by decide)) dX13_makeSimples_387 ?_
          refine ow_topi (y := nI (ow_cn n)) ((congrArg fS (nI_clamp (n := n) (by omega))).trans (hJ.1)) ?_
          refine lv_icmp_ge (tgt := 419) hx hb dX13_makeSimples_388 (by decide) (fun _ => ?_) (fun c9 => absurd (nI_le (a := ow_cn n) (b := k) (by omega) (by omega)) c9)
          refine lv_iinc (v := nI (n + 1)) (lv' := [(1, .int (nI (n + 1))), (0, .ref h0), (2, .int (nI k))]) hx hb dX13_makeSimples_419 hl (k := 1) rfl (nI_1 n) (by decide) rfl (fun ls hl => ?_)
          refine lv_goto (tgt := 2) hx hb dX13_makeSimples_422 (by decide) ?_
          exact ih_n (n + 1) (by omega) (by omega) H locs ls _ _ _ _ _ _ _ _ _ _ _ hP hD hS (lv_sub hl [1, 0] rfl) (fun x9 h9 y9 => hJ.2.2.2.2.1 x9 (by omega) y9) hJ.2.2.2.2.2
        | succ d ih_k =>
          intro k hv_k H locs ls fS fE fL fZ fM fA fO fP fV fR fG hP hD hS hl hJ
          have hkc : k < ow_cn n := by omega
          have L393 : ∀ (d j : Nat), j + d = n - 1 → ∀ (H : Heap) (locs : List Loc) (ls : Array Slot) (fS fE fL fZ fM fA fO fP fV fR fG : Nat → Int32), va_P (dC, dI) vwCl [(h0, .inr (16, fs)), (aS, .inl (cI, 6, .inl fS)), (aE, .inl (cI, 3600, .inl fE)), (aL, .inl (cI, 7200, .inl fL)), (aZ, .inl (cI, 720, .inl fZ)), (aM, .inl (cI, 2880, .inl fM)), (aA, .inl (cI, 720, .inl fA)), (aO, .inl (cI, 720, .inl fO)), (aP, .inl (cI, 2880, .inl fP)), (aV, .inl (cI, 2880, .inl fV)), (aR, .inl (cI, 5, .inl fR)), (aG, .inl (cI, 400, .inl fG))] H → va_D A [(h0, .inr (16, fs)), (aS, .inl (cI, 6, .inl fS)), (aE, .inl (cI, 3600, .inl fE)), (aL, .inl (cI, 7200, .inl fL)), (aZ, .inl (cI, 720, .inl fZ)), (aM, .inl (cI, 2880, .inl fM)), (aA, .inl (cI, 720, .inl fA)), (aO, .inl (cI, 720, .inl fO)), (aP, .inl (cI, 2880, .inl fP)), (aV, .inl (cI, 2880, .inl fV)), (aR, .inl (cI, 5, .inl fR)), (aG, .inl (cI, 400, .inl fG))] → va_S A s.heap H locs → lv_has ls 10 [(0, .ref h0), (1, .int (nI n)), (2, .int (nI k)), (3, .int (nI j))] → ow_J n (ow_cn n) fS fE fL fZ fM → W p l e ({ frames := 3, cells := 0, slots := 0, locals := 120 } : Room) s m ([.ref h0] : List Value).toArray below meth c H locs 0 0 QQ (F0 m 393 ls []) := by
            intro d
            induction d with
            | zero =>
              intro j hv_j H locs ls fS fE fL fZ fM fA fO fP fV fR fG hP hD hS hl hJ
              refine lv_iload_n hx hb dX13_makeSimples_393 rfl (lv_at hl 3 rfl) ?_
              refine lv_iload_n hx hb dX13_makeSimples_394 rfl (lv_at hl 1 rfl) ?_
              refine lv_iconst (v := 1) hx hb dX13_makeSimples_395 (by decide) ?_
              refine lv_isub hx hb dX13_makeSimples_396 ?_
              refine ow_topi (y := nI (n - 1)) (pk_sub (a := n) (b := 1) (by omega)) ?_
              refine lv_icmp_ge (tgt := 413) hx hb dX13_makeSimples_397 (by decide) (fun _ => ?_) (fun c9 => absurd (nI_le (a := n - 1) (b := j) (by omega) (by omega)) c9)
              refine lv_iinc (v := nI (k + 1)) (lv' := [(2, .int (nI (k + 1))), (0, .ref h0), (1, .int (nI n)), (3, .int (nI j))]) hx hb dX13_makeSimples_413 hl (k := 2) rfl (nI_1 k) (by decide) rfl (fun ls hl => ?_)
              refine lv_goto (tgt := 381) hx hb dX13_makeSimples_416 (by decide) ?_
              exact ih_k (k + 1) (by omega) H locs ls _ _ _ _ _ _ _ _ _ _ _ hP hD hS (lv_sub hl [1, 2, 0] rfl) hJ
            | succ d ih_j =>
              intro j hv_j H locs ls fS fE fL fZ fM fA fO fP fV fR fG hP hD hS hl hJ
              refine lv_iload_n hx hb dX13_makeSimples_393 rfl (lv_at hl 3 rfl) ?_
              refine lv_iload_n hx hb dX13_makeSimples_394 rfl (lv_at hl 1 rfl) ?_
              refine lv_iconst (v := 1) hx hb dX13_makeSimples_395 (by decide) ?_
              refine lv_isub hx hb dX13_makeSimples_396 ?_
              refine ow_topi (y := nI (n - 1)) (pk_sub (a := n) (b := 1) (by omega)) ?_
              refine lv_icmp_ge (tgt := 413) hx hb dX13_makeSimples_397 (by decide) (fun c9 => absurd c9 (nI_ge (a := j) (b := n - 1) (by omega) (by omega))) (fun _ => ?_)
              refine lv_aload_n hx hb dX13_makeSimples_400 rfl (lv_at hl 0 rfl) ?_
              refine lv_iload_n hx hb dX13_makeSimples_401 rfl (lv_at hl 1 rfl) ?_
              refine lv_iload_n hx hb dX13_makeSimples_402 rfl (lv_at hl 2 rfl) ?_
              refine lv_iload_n hx hb dX13_makeSimples_403 rfl (lv_at hl 3 rfl) ?_
              have hPc := hP.sub (ws' := [(h0, .inr (16, fs)), (aZ, .inl (cI, 720, .inl fZ)), (aL, .inl (cI, 7200, .inl fL)), (aM, .inl (cI, 2880, .inl fM)), (aP, .inl (cI, 2880, .inl fP)), (aV, .inl (cI, 2880, .inl fV)), (aG, .inl (cI, 400, .inl fG))]) [0, 4, 3, 5, 8, 9, 11] rfl
              have hDc := hD.sub (ws' := [(h0, .inr (16, fs)), (aZ, .inl (cI, 720, .inl fZ)), (aL, .inl (cI, 7200, .inl fL)), (aM, .inl (cI, 2880, .inl fM)), (aP, .inl (cI, 2880, .inl fP)), (aV, .inl (cI, 2880, .inl fV)), (aG, .inl (cI, 400, .inl fG))]) [0, 4, 3, 5, 8, 9, 11] (by decide) rfl
              have hFc := va_free (wc := [(h0, .inr (16, fs)), (aZ, .inl (cI, 720, .inl fZ)), (aL, .inl (cI, 7200, .inl fL)), (aM, .inl (cI, 2880, .inl fM)), (aP, .inl (cI, 2880, .inl fP)), (aV, .inl (cI, 2880, .inl fV)), (aG, .inl (cI, 400, .inl fG))]) hD hS hA [0, 4, 3, 5, 8, 9, 11] rfl
              refine va_callv (va_runV (As := [.int (nI n), .int (nI k), .int (nI j)]) (rest := []) ⟨hx, hb, hml, hown, hts⟩ (kf_X13_turnRound l dC dI cI cB cJ cZ h0 aZ aL aM aP aV aG fs hfs hkaZ hkaL hkaM hkaP hkaV hkaG fZ fL fM fP fV fG n k j (ow_Z n k) (ow_w0 n k j) h2 h5 (by omega) (by omega) (hfr.2.2.2.2.2 k hkc) (ow_L n k) (ow_L4 n k) (hJ.2.2.1 k hkc) (hJ.2.2.2.1 k hkc) hJ.2.2.2.2.2 (ow_rvt h2 h5 hkc (by omega)) (fun t9 h9 => ow_w0d h9) (ow_w0z (by omega)) H.size) (cwV 3 hts gf_X13_makeSimples_c rfl rfl rfl (by decide +kernel) ⟨(Nat.le_of_ble_eq_true rfl), (Nat.le_of_ble_eq_true rfl)⟩) ⟨fun a U g mk q => by obtain ⟨q0, q1, qP, qK, qD⟩ := q; exact ⟨q0, q1, qP, va_K.moved (u := U) (U := U.calling g mk a) (Vm.Alike.refl U.vm) qK, qD⟩, va_recv hK hPc (ci := 16) (q0 := 0) rfl rfl, fun U hU hW => ⟨rfl, by rw [hU], by rw [hU]; exact hPc, va_K.moved hW.alike hK, hDc.weaken (fun _ _ _ _ => trivial)⟩⟩ rfl rfl hl.1 rfl (lv_room (Nat.le_of_ble_eq_true rfl)) dX13_makeSimples_404 ⟨(Nat.le_of_ble_eq_true rfl), (Nat.le_of_ble_eq_true rfl)⟩) hS (fun q _ h => hFc q h) hFc (fun gs2 t H1 locs ht hvm hw hB hz1 hk1 hS => ?_)
              obtain ⟨hP1, hD1⟩ := hB
              rw [ht] at hP1
              obtain ⟨g3, g4, g5⟩ := gs2
              obtain ⟨hP, hD⟩ := va_join (wr := [(aS, .inl (cI, 6, .inl fS)), (aE, .inl (cI, 3600, .inl fE)), (aA, .inl (cI, 720, .inl fA)), (aO, .inl (cI, 720, .inl fO)), (aR, .inl (cI, 5, .inl fR))]) (w1 := [(h0, .inr (16, fs)), (aZ, .inl (cI, 720, .inl fZ)), (aL, .inl (cI, 7200, .inl fL)), (aM, .inl (cI, 2880, .inl fM)), (aP, .inl (cI, 2880, .inl g3)), (aV, .inl (cI, 2880, .inl g4)), (aG, .inl (cI, 400, .inl g5))]) hP hD [0, 4, 3, 5, 8, 9, 11] [1, 2, 6, 7, 10] rfl rfl (by decide) (by decide) hk1 hFc hP1 hD1
              generalize H1 = H at hP hS ⊢
              have hP : va_P (dC, dI) vwCl [(aS, .inl (cI, 6, .inl fS)), (aE, .inl (cI, 3600, .inl fE)), (aA, .inl (cI, 720, .inl fA)), (aO, .inl (cI, 720, .inl fO)), (aR, .inl (cI, 5, .inl fR)), (h0, .inr (16, fs)), (aZ, .inl (cI, 720, .inl fZ)), (aL, .inl (cI, 7200, .inl fL)), (aM, .inl (cI, 2880, .inl fM)), (aP, .inl (cI, 2880, .inl g3)), (aV, .inl (cI, 2880, .inl g4)), (aG, .inl (cI, 400, .inl g5))] H := hP
              have hD : va_D A [(aS, .inl (cI, 6, .inl fS)), (aE, .inl (cI, 3600, .inl fE)), (aA, .inl (cI, 720, .inl fA)), (aO, .inl (cI, 720, .inl fO)), (aR, .inl (cI, 5, .inl fR)), (h0, .inr (16, fs)), (aZ, .inl (cI, 720, .inl fZ)), (aL, .inl (cI, 7200, .inl fL)), (aM, .inl (cI, 2880, .inl fM)), (aP, .inl (cI, 2880, .inl g3)), (aV, .inl (cI, 2880, .inl g4)), (aG, .inl (cI, 400, .inl g5))] := hD
              have hP := hP.sub (ws' := [(h0, .inr (16, fs)), (aS, .inl (cI, 6, .inl fS)), (aE, .inl (cI, 3600, .inl fE)), (aL, .inl (cI, 7200, .inl fL)), (aZ, .inl (cI, 720, .inl fZ)), (aM, .inl (cI, 2880, .inl fM)), (aA, .inl (cI, 720, .inl fA)), (aO, .inl (cI, 720, .inl fO)), (aP, .inl (cI, 2880, .inl g3)), (aV, .inl (cI, 2880, .inl g4)), (aR, .inl (cI, 5, .inl fR)), (aG, .inl (cI, 400, .inl g5))]) [5, 0, 1, 7, 6, 8, 2, 3, 9, 10, 4, 11] rfl
              have hD := hD.sub (ws' := [(h0, .inr (16, fs)), (aS, .inl (cI, 6, .inl fS)), (aE, .inl (cI, 3600, .inl fE)), (aL, .inl (cI, 7200, .inl fL)), (aZ, .inl (cI, 720, .inl fZ)), (aM, .inl (cI, 2880, .inl fM)), (aA, .inl (cI, 720, .inl fA)), (aO, .inl (cI, 720, .inl fO)), (aP, .inl (cI, 2880, .inl g3)), (aV, .inl (cI, 2880, .inl g4)), (aR, .inl (cI, 5, .inl fR)), (aG, .inl (cI, 400, .inl g5))]) [5, 0, 1, 7, 6, 8, 2, 3, 9, 10, 4, 11] (by decide) rfl
              refine lv_iinc (v := nI (j + 1)) (lv' := [(3, .int (nI (j + 1))), (0, .ref h0), (1, .int (nI n)), (2, .int (nI k))]) hx hb dX13_makeSimples_407 hl (k := 3) rfl (nI_1 j) (by decide) rfl (fun ls hl => ?_)
              refine lv_goto (tgt := 393) hx hb dX13_makeSimples_410 (by decide) ?_
              exact ih_j (j + 1) (by omega) H locs ls _ _ _ _ _ _ _ _ _ _ _ hP hD hS (lv_sub hl [1, 2, 3, 0] rfl) hJ
          refine lv_iload_n hx hb dX13_makeSimples_381 rfl (lv_at hl 2 rfl) ?_
          refine lv_aload_n hx hb dX13_makeSimples_382 rfl (lv_at hl 0 rfl) ?_
          refine va_get (D := (dC, dI)) (ci := 16) (v := .ref aS) (C := RX13) (T := TX13) (N := 120) hx hb hts (fun _ h => List.mem_cons_of_mem _ (List.mem_append_left _ (List.mem_append_right _ h))) hown hK hP 0 rfl rfl 96 (by decide) (hts (.fieldLink RX13 329 "KnotHouseModel" "simples" "[I") (by decide +kernel)) (fun _ h9 => h9) hkaS dX13_makeSimples_383 ?_
          refine lv_iload_n hx hb dX13_makeSimples_386 rfl (lv_at hl 1 rfl) ?_
          refine va_iald hx hb hK hP 1 0 rfl rfl (vp_in_nI (n := n) (N := 6) (by omega) (by decide)) dX13_makeSimples_387 ?_
          refine ow_topi (y := nI (ow_cn n)) ((congrArg fS (nI_clamp (n := n) (by omega))).trans (hJ.1)) ?_
          refine lv_icmp_ge (tgt := 419) hx hb dX13_makeSimples_388 (by decide) (fun c9 => absurd c9 (nI_ge (a := k) (b := ow_cn n) (by omega) (by omega))) (fun _ => ?_)
          refine lv_iconst (v := 0) hx hb dX13_makeSimples_391 (by decide) ?_
          refine ow_topi (y := nI 0) (by decide) ?_
          refine lv_istore_n (lv' := [(3, .int (nI 0)), (0, .ref h0), (1, .int (nI n)), (2, .int (nI k))]) hx hb dX13_makeSimples_392 rfl hl (by decide) rfl (fun ls hl => ?_)
          exact L393 (n - 1) 0 (by omega) H locs ls _ _ _ _ _ _ _ _ _ _ _ hP hD hS (lv_sub hl [1, 2, 3, 0] rfl) hJ
      have L42 : ∀ (d k : Nat), k + d = ow_cn n → ∀ (H : Heap) (locs : List Loc) (ls : Array Slot) (fS fE fL fZ fM fA fO fP fV fR fG : Nat → Int32), va_P (dC, dI) vwCl [(h0, .inr (16, fs)), (aS, .inl (cI, 6, .inl fS)), (aE, .inl (cI, 3600, .inl fE)), (aL, .inl (cI, 7200, .inl fL)), (aZ, .inl (cI, 720, .inl fZ)), (aM, .inl (cI, 2880, .inl fM)), (aA, .inl (cI, 720, .inl fA)), (aO, .inl (cI, 720, .inl fO)), (aP, .inl (cI, 2880, .inl fP)), (aV, .inl (cI, 2880, .inl fV)), (aR, .inl (cI, 5, .inl fR)), (aG, .inl (cI, 400, .inl fG))] H → va_D A [(h0, .inr (16, fs)), (aS, .inl (cI, 6, .inl fS)), (aE, .inl (cI, 3600, .inl fE)), (aL, .inl (cI, 7200, .inl fL)), (aZ, .inl (cI, 720, .inl fZ)), (aM, .inl (cI, 2880, .inl fM)), (aA, .inl (cI, 720, .inl fA)), (aO, .inl (cI, 720, .inl fO)), (aP, .inl (cI, 2880, .inl fP)), (aV, .inl (cI, 2880, .inl fV)), (aR, .inl (cI, 5, .inl fR)), (aG, .inl (cI, 400, .inl fG))] → va_S A s.heap H locs → lv_has ls 10 [(0, .ref h0), (1, .int (nI n)), (2, .int (nI k))] → ow_J n (ow_C n k 0) fS fE fL fZ fM → W p l e ({ frames := 3, cells := 0, slots := 0, locals := 120 } : Room) s m ([.ref h0] : List Value).toArray below meth c H locs 0 0 QQ (F0 m 42 ls []) := by
        intro d
        induction d with
        | zero =>
          intro k hv_k H locs ls fS fE fL fZ fM fA fO fP fV fR fG hP hD hS hl hJ
          have hkc : k = ow_cn n := by omega
          have hJ : ow_J n (ow_cn n) fS fE fL fZ fM := by rw [hkc, hfr.2.1] at hJ; exact hJ
          refine lv_iload_n hx hb dX13_makeSimples_42 rfl (lv_at hl 2 rfl) ?_
          refine lv_aload_n hx hb dX13_makeSimples_43 rfl (lv_at hl 0 rfl) ?_
          refine va_get (D := (dC, dI)) (ci := 16) (v := .ref aS) (C := RX13) (T := TX13) (N := 120) hx hb hts (fun _ h => List.mem_cons_of_mem _ (List.mem_append_left _ (List.mem_append_right _ h))) hown hK hP 0 rfl rfl 96 (by decide) (hts (.fieldLink RX13 329 "KnotHouseModel" "simples" "[I") (by decide +kernel)) (fun _ h9 => h9) hkaS dX13_makeSimples_44 ?_
          refine lv_iload_n hx hb dX13_makeSimples_47 rfl (lv_at hl 1 rfl) ?_
          refine va_iald hx hb hK hP 1 0 rfl rfl (vp_in_nI (n := n) (N := 6) (by omega) (by decide)) dX13_makeSimples_48 ?_
          refine ow_topi (y := nI (ow_cn n)) ((congrArg fS (nI_clamp (n := n) (by omega))).trans (hJ.1)) ?_
          refine lv_icmp_ge (tgt := 374) hx hb dX13_makeSimples_49 (by decide) (fun _ => ?_) (fun c9 => absurd (nI_le (a := ow_cn n) (b := k) (by omega) (by omega)) c9)
          refine lv_aload_n hx hb dX13_makeSimples_374 rfl (lv_at hl 0 rfl) ?_
          refine lv_iload_n hx hb dX13_makeSimples_375 rfl (lv_at hl 1 rfl) ?_
          have hPc := hP.sub (ws' := [(h0, .inr (16, fs)), (aS, .inl (cI, 6, .inl fS)), (aE, .inl (cI, 3600, .inl fE)), (aA, .inl (cI, 720, .inl fA)), (aO, .inl (cI, 720, .inl fO)), (aR, .inl (cI, 5, .inl fR))]) [0, 1, 2, 6, 7, 10] rfl
          have hDc := hD.sub (ws' := [(h0, .inr (16, fs)), (aS, .inl (cI, 6, .inl fS)), (aE, .inl (cI, 3600, .inl fE)), (aA, .inl (cI, 720, .inl fA)), (aO, .inl (cI, 720, .inl fO)), (aR, .inl (cI, 5, .inl fR))]) [0, 1, 2, 6, 7, 10] (by decide) rfl
          have hFc := va_free (wc := [(h0, .inr (16, fs)), (aS, .inl (cI, 6, .inl fS)), (aE, .inl (cI, 3600, .inl fE)), (aA, .inl (cI, 720, .inl fA)), (aO, .inl (cI, 720, .inl fO)), (aR, .inl (cI, 5, .inl fR))]) hD hS hA [0, 1, 2, 6, 7, 10] rfl
          refine va_callv (va_runV (As := [.int (nI n)]) (rest := []) ⟨hx, hb, hml, hown, hts⟩ (kf_X13_makeTurned l dC dI cI cB cJ cZ h0 aS aE aA aO aR fs hfs hkaS hkaE hkaA hkaO hkaR fS fE fA fO fR n (ow_cn n) h2 h5 hcn2 hJ.1 H.size) (cwV 1 hts gf_X13_makeSimples_b rfl rfl rfl (by decide +kernel) ⟨(Nat.le_of_ble_eq_true rfl), (Nat.le_of_ble_eq_true rfl)⟩) ⟨fun a U g mk q => by obtain ⟨q0, q1, qP, qK, qD⟩ := q; exact ⟨q0, q1, qP, va_K.moved (u := U) (U := U.calling g mk a) (Vm.Alike.refl U.vm) qK, qD⟩, va_recv hK hPc (ci := 16) (q0 := 0) rfl rfl, fun U hU hW => ⟨rfl, by rw [hU], by rw [hU]; exact hPc, va_K.moved hW.alike hK, hDc.weaken (fun _ _ _ _ => trivial)⟩⟩ rfl rfl hl.1 rfl (lv_room (Nat.le_of_ble_eq_true rfl)) dX13_makeSimples_376 ⟨(Nat.le_of_ble_eq_true rfl), (Nat.le_of_ble_eq_true rfl)⟩) hS (fun q _ h => hFc q h) hFc (fun gs8 t H1 locs ht hvm hw hB hz1 hk1 hS => ?_)
          obtain ⟨hP1, hD1⟩ := hB
          rw [ht] at hP1
          obtain ⟨g9, g10, g11⟩ := gs8
          obtain ⟨hP, hD⟩ := va_join (wr := [(aL, .inl (cI, 7200, .inl fL)), (aZ, .inl (cI, 720, .inl fZ)), (aM, .inl (cI, 2880, .inl fM)), (aP, .inl (cI, 2880, .inl fP)), (aV, .inl (cI, 2880, .inl fV)), (aG, .inl (cI, 400, .inl fG))]) (w1 := [(h0, .inr (16, fs)), (aS, .inl (cI, 6, .inl fS)), (aE, .inl (cI, 3600, .inl fE)), (aA, .inl (cI, 720, .inl g9)), (aO, .inl (cI, 720, .inl g10)), (aR, .inl (cI, 5, .inl g11))]) hP hD [0, 1, 2, 6, 7, 10] [3, 4, 5, 8, 9, 11] rfl rfl (by decide) (by decide) hk1 hFc hP1 hD1
          generalize H1 = H at hP hS ⊢
          have hP : va_P (dC, dI) vwCl [(aL, .inl (cI, 7200, .inl fL)), (aZ, .inl (cI, 720, .inl fZ)), (aM, .inl (cI, 2880, .inl fM)), (aP, .inl (cI, 2880, .inl fP)), (aV, .inl (cI, 2880, .inl fV)), (aG, .inl (cI, 400, .inl fG)), (h0, .inr (16, fs)), (aS, .inl (cI, 6, .inl fS)), (aE, .inl (cI, 3600, .inl fE)), (aA, .inl (cI, 720, .inl g9)), (aO, .inl (cI, 720, .inl g10)), (aR, .inl (cI, 5, .inl g11))] H := hP
          have hD : va_D A [(aL, .inl (cI, 7200, .inl fL)), (aZ, .inl (cI, 720, .inl fZ)), (aM, .inl (cI, 2880, .inl fM)), (aP, .inl (cI, 2880, .inl fP)), (aV, .inl (cI, 2880, .inl fV)), (aG, .inl (cI, 400, .inl fG)), (h0, .inr (16, fs)), (aS, .inl (cI, 6, .inl fS)), (aE, .inl (cI, 3600, .inl fE)), (aA, .inl (cI, 720, .inl g9)), (aO, .inl (cI, 720, .inl g10)), (aR, .inl (cI, 5, .inl g11))] := hD
          have hP := hP.sub (ws' := [(h0, .inr (16, fs)), (aS, .inl (cI, 6, .inl fS)), (aE, .inl (cI, 3600, .inl fE)), (aL, .inl (cI, 7200, .inl fL)), (aZ, .inl (cI, 720, .inl fZ)), (aM, .inl (cI, 2880, .inl fM)), (aA, .inl (cI, 720, .inl g9)), (aO, .inl (cI, 720, .inl g10)), (aP, .inl (cI, 2880, .inl fP)), (aV, .inl (cI, 2880, .inl fV)), (aR, .inl (cI, 5, .inl g11)), (aG, .inl (cI, 400, .inl fG))]) [6, 7, 8, 0, 1, 2, 9, 10, 3, 4, 11, 5] rfl
          have hD := hD.sub (ws' := [(h0, .inr (16, fs)), (aS, .inl (cI, 6, .inl fS)), (aE, .inl (cI, 3600, .inl fE)), (aL, .inl (cI, 7200, .inl fL)), (aZ, .inl (cI, 720, .inl fZ)), (aM, .inl (cI, 2880, .inl fM)), (aA, .inl (cI, 720, .inl g9)), (aO, .inl (cI, 720, .inl g10)), (aP, .inl (cI, 2880, .inl fP)), (aV, .inl (cI, 2880, .inl fV)), (aR, .inl (cI, 5, .inl g11)), (aG, .inl (cI, 400, .inl fG))]) [6, 7, 8, 0, 1, 2, 9, 10, 3, 4, 11, 5] (by decide) rfl
          refine lv_iconst (v := 0) hx hb dX13_makeSimples_379 (by decide) ?_
          refine ow_topi (y := nI 0) (by decide) ?_
          refine lv_istore_n (lv' := [(2, .int (nI 0)), (0, .ref h0), (1, .int (nI n))]) hx hb dX13_makeSimples_380 rfl hl (by decide) rfl (fun ls hl => ?_)
          exact L381 (ow_cn n) 0 (by omega) H locs ls _ _ _ _ _ _ _ _ _ _ _ hP hD hS (lv_sub hl [1, 2, 0] rfl) hJ
        | succ d ih_k =>
          intro k hv_k H locs ls fS fE fL fZ fM fA fO fP fV fR fG hP hD hS hl hJ
          have hkc : k < ow_cn n := by omega
          have L62 : ∀ (d j : Nat), j + d = n - 1 → ∀ (H : Heap) (locs : List Loc) (ls : Array Slot) (fS fE fL fZ fM fA fO fP fV fR fG : Nat → Int32), va_P (dC, dI) vwCl [(h0, .inr (16, fs)), (aS, .inl (cI, 6, .inl fS)), (aE, .inl (cI, 3600, .inl fE)), (aL, .inl (cI, 7200, .inl fL)), (aZ, .inl (cI, 720, .inl fZ)), (aM, .inl (cI, 2880, .inl fM)), (aA, .inl (cI, 720, .inl fA)), (aO, .inl (cI, 720, .inl fO)), (aP, .inl (cI, 2880, .inl fP)), (aV, .inl (cI, 2880, .inl fV)), (aR, .inl (cI, 5, .inl fR)), (aG, .inl (cI, 400, .inl fG))] H → va_D A [(h0, .inr (16, fs)), (aS, .inl (cI, 6, .inl fS)), (aE, .inl (cI, 3600, .inl fE)), (aL, .inl (cI, 7200, .inl fL)), (aZ, .inl (cI, 720, .inl fZ)), (aM, .inl (cI, 2880, .inl fM)), (aA, .inl (cI, 720, .inl fA)), (aO, .inl (cI, 720, .inl fO)), (aP, .inl (cI, 2880, .inl fP)), (aV, .inl (cI, 2880, .inl fV)), (aR, .inl (cI, 5, .inl fR)), (aG, .inl (cI, 400, .inl fG))] → va_S A s.heap H locs → lv_has ls 10 [(0, .ref h0), (1, .int (nI n)), (2, .int (nI k)), (3, .int (nI (120 * n + k))), (4, .int (nI j))] → ow_J n (ow_C n k j) fS fE fL fZ fM → W p l e ({ frames := 3, cells := 0, slots := 0, locals := 120 } : Room) s m ([.ref h0] : List Value).toArray below meth c H locs 0 0 QQ (F0 m 62 ls []) := by
            intro d
            induction d with
            | zero =>
              intro j hv_j H locs ls fS fE fL fZ fM fA fO fP fV fR fG hP hD hS hl hJ
              have hjn : j = n - 1 := by omega
              have hJ : ow_J n (ow_C n (k + 1) 0) fS fE fL fZ fM := by rw [hjn, hfr.2.2.2.2.1 k hkc] at hJ; exact hJ
              refine lv_iload hx hb dX13_makeSimples_62 (lv_at hl 4 rfl) ?_
              refine lv_iload_n hx hb dX13_makeSimples_64 rfl (lv_at hl 1 rfl) ?_
              refine lv_iconst (v := 1) hx hb dX13_makeSimples_65 (by decide) ?_
              refine lv_isub hx hb dX13_makeSimples_66 ?_
              refine ow_topi (y := nI (n - 1)) (pk_sub (a := n) (b := 1) (by omega)) ?_
              refine lv_icmp_ge (tgt := 368) hx hb dX13_makeSimples_67 (by decide) (fun _ => ?_) (fun c9 => absurd (nI_le (a := n - 1) (b := j) (by omega) (by omega)) c9)
              refine lv_iinc (v := nI (k + 1)) (lv' := [(2, .int (nI (k + 1))), (0, .ref h0), (1, .int (nI n)), (3, .int (nI (120 * n + k))), (4, .int (nI j))]) hx hb dX13_makeSimples_368 hl (k := 2) rfl (nI_1 k) (by decide) rfl (fun ls hl => ?_)
              refine lv_goto (tgt := 42) hx hb dX13_makeSimples_371 (by decide) ?_
              exact ih_k (k + 1) (by omega) H locs ls _ _ _ _ _ _ _ _ _ _ _ hP hD hS (lv_sub hl [1, 2, 0] rfl) hJ
            | succ d ih_j =>
              intro j hv_j H locs ls fS fE fL fZ fM fA fO fP fV fR fG hP hD hS hl hJ
              have hj1 : j + 1 < n := by omega
              obtain ⟨hpa, hpb, hkC, hCc, hCe⟩ := ow_ck1 h2 h5 hkc hj1
              have L79 : ∀ (d t : Nat), t + d = n → ∀ (H : Heap) (locs : List Loc) (ls : Array Slot) (fS fE fL fZ fM fA fO fP fV fR fG : Nat → Int32), va_P (dC, dI) vwCl [(h0, .inr (16, fs)), (aS, .inl (cI, 6, .inl fS)), (aE, .inl (cI, 3600, .inl fE)), (aL, .inl (cI, 7200, .inl fL)), (aZ, .inl (cI, 720, .inl fZ)), (aM, .inl (cI, 2880, .inl fM)), (aA, .inl (cI, 720, .inl fA)), (aO, .inl (cI, 720, .inl fO)), (aP, .inl (cI, 2880, .inl fP)), (aV, .inl (cI, 2880, .inl fV)), (aR, .inl (cI, 5, .inl fR)), (aG, .inl (cI, 400, .inl fG))] H → va_D A [(h0, .inr (16, fs)), (aS, .inl (cI, 6, .inl fS)), (aE, .inl (cI, 3600, .inl fE)), (aL, .inl (cI, 7200, .inl fL)), (aZ, .inl (cI, 720, .inl fZ)), (aM, .inl (cI, 2880, .inl fM)), (aA, .inl (cI, 720, .inl fA)), (aO, .inl (cI, 720, .inl fO)), (aP, .inl (cI, 2880, .inl fP)), (aV, .inl (cI, 2880, .inl fV)), (aR, .inl (cI, 5, .inl fR)), (aG, .inl (cI, 400, .inl fG))] → va_S A s.heap H locs → lv_has ls 10 [(0, .ref h0), (1, .int (nI n)), (2, .int (nI k)), (3, .int (nI (120 * n + k))), (4, .int (nI j)), (5, .int (nI (ow_pa n k j t))), (6, .int (nI (ow_pa n k (j + 1) t))), (7, .int (nI t))] → ow_J n (ow_C n k j) fS fE fL fZ fM → (∀ u, u < t → fR u = nI (ow_E n k u)) → W p l e ({ frames := 3, cells := 0, slots := 0, locals := 120 } : Room) s m ([.ref h0] : List Value).toArray below meth c H locs 0 0 QQ (F0 m 79 ls []) := by
                intro d
                induction d with
                | zero =>
                  intro t hv_t H locs ls fS fE fL fZ fM fA fO fP fV fR fG hP hD hS hl hJ hRr
                  have htn : t = n := by omega
                  rw [htn] at hl hRr
                  refine lv_iload hx hb dX13_makeSimples_79 (lv_at hl 7 rfl) ?_
                  refine lv_iload_n hx hb dX13_makeSimples_81 rfl (lv_at hl 1 rfl) ?_
                  refine lv_icmp_ge (tgt := 153) hx hb dX13_makeSimples_82 (by decide) (fun _ => ?_) (fun c9 => absurd (nI_le (a := n) (b := n) (Nat.le_refl n) (by omega)) c9)
                  refine lv_aload_n hx hb dX13_makeSimples_153 rfl (lv_at hl 0 rfl) ?_
                  refine va_get (D := (dC, dI)) (ci := 16) (v := .ref aM) (C := RX13) (T := TX13) (N := 120) hx hb hts (fun _ h => List.mem_cons_of_mem _ (List.mem_append_left _ (List.mem_append_right _ h))) hown hK hP 0 rfl rfl 100 (by decide) (hts (.fieldLink RX13 341 "KnotHouseModel" "more" "[I") (by decide +kernel)) (fun _ h9 => h9) hkaM dX13_makeSimples_154 ?_
                  refine lv_iconst (v := 4) hx hb dX13_makeSimples_157 (by decide) ?_
                  refine lv_iload_n hx hb dX13_makeSimples_158 rfl (lv_at hl 3 rfl) ?_
                  refine lv_imul hx hb dX13_makeSimples_159 ?_
                  refine ow_topi (y := nI (4 * (120 * n + k))) (pk_mul 4 (120 * n + k)) ?_
                  refine lv_iload hx hb dX13_makeSimples_160 (lv_at hl 4 rfl) ?_
                  refine lv_iadd hx hb dX13_makeSimples_162 ?_
                  refine ow_topi (y := nI (4 * (120 * n + k) + j)) (nI_add (4 * (120 * n + k)) j) ?_
                  refine lv_iconst (v := (-1)) hx hb dX13_makeSimples_163 (by decide) ?_
                  refine ow_topi (y := nI 0 - 1) (by decide) ?_
                  refine ow_iastU (j := 4 * (120 * n + k) + j) hx hb hK hP hD hS 5 0 rfl rfl rfl (by omega) (by decide) dX13_makeSimples_164 (fun f12 H locs ef12 nf12 hP hD hS => ?_)
                  have hP : va_P (dC, dI) vwCl [(h0, .inr (16, fs)), (aS, .inl (cI, 6, .inl fS)), (aE, .inl (cI, 3600, .inl fE)), (aL, .inl (cI, 7200, .inl fL)), (aZ, .inl (cI, 720, .inl fZ)), (aM, .inl (cI, 2880, .inl f12)), (aA, .inl (cI, 720, .inl fA)), (aO, .inl (cI, 720, .inl fO)), (aP, .inl (cI, 2880, .inl fP)), (aV, .inl (cI, 2880, .inl fV)), (aR, .inl (cI, 5, .inl fR)), (aG, .inl (cI, 400, .inl fG))] H := hP
                  have hD : va_D A [(h0, .inr (16, fs)), (aS, .inl (cI, 6, .inl fS)), (aE, .inl (cI, 3600, .inl fE)), (aL, .inl (cI, 7200, .inl fL)), (aZ, .inl (cI, 720, .inl fZ)), (aM, .inl (cI, 2880, .inl f12)), (aA, .inl (cI, 720, .inl fA)), (aO, .inl (cI, 720, .inl fO)), (aP, .inl (cI, 2880, .inl fP)), (aV, .inl (cI, 2880, .inl fV)), (aR, .inl (cI, 5, .inl fR)), (aG, .inl (cI, 400, .inl fG))] := hD
                  have hJ := ow_Jm hJ (r := 0) (by decide) ef12 nf12
                  by_cases hAB : ow_pa n k j n < ow_pa n k (j + 1) n
                  · have hk2 := ow_ck2 h2 h5 hkc hj1 hAB
                    have hk3 := ow_ck3 h2 h5 hkc hj1 hAB
                    refine lv_iload hx hb dX13_makeSimples_165 (lv_at hl 5 rfl) ?_
                    refine lv_iload hx hb dX13_makeSimples_167 (lv_at hl 6 rfl) ?_
                    refine lv_icmp_ge (tgt := 362) hx hb dX13_makeSimples_169 (by decide) (fun c9 => absurd c9 (nI_ge (a := ow_pa n k j n) (b := ow_pa n k (j + 1) n) hAB (by omega))) (fun _ => ?_)
                    refine lv_aload_n hx hb dX13_makeSimples_172 rfl (lv_at hl 0 rfl) ?_
                    refine va_get (D := (dC, dI)) (ci := 16) (v := .ref aR) (C := RX13) (T := TX13) (N := 120) hx hb hts (fun _ h => List.mem_cons_of_mem _ (List.mem_append_left _ (List.mem_append_right _ h))) hown hK hP 0 rfl rfl 105 (by decide) (hts (.fieldLink RX13 356 "KnotHouseModel" "endRow" "[I") (by decide +kernel)) (fun _ h9 => h9) hkaR dX13_makeSimples_173 ?_
                    refine lv_iload hx hb dX13_makeSimples_176 (lv_at hl 5 rfl) ?_
                    refine lv_iload hx hb dX13_makeSimples_178 (lv_at hl 4 rfl) ?_
                    refine lv_iconst (v := 1) hx hb dX13_makeSimples_180 (by decide) ?_
                    refine lv_iadd hx hb dX13_makeSimples_181 ?_
                    refine ow_topi (y := nI (j + 1)) (nI_1 j) ?_
                    refine ow_iastU (j := ow_pa n k j n) hx hb hK hP hD hS 10 0 rfl rfl rfl (by omega) (by decide) dX13_makeSimples_182 (fun f13 H locs ef13 nf13 hP hD hS => ?_)
                    have hP : va_P (dC, dI) vwCl [(h0, .inr (16, fs)), (aS, .inl (cI, 6, .inl fS)), (aE, .inl (cI, 3600, .inl fE)), (aL, .inl (cI, 7200, .inl fL)), (aZ, .inl (cI, 720, .inl fZ)), (aM, .inl (cI, 2880, .inl f12)), (aA, .inl (cI, 720, .inl fA)), (aO, .inl (cI, 720, .inl fO)), (aP, .inl (cI, 2880, .inl fP)), (aV, .inl (cI, 2880, .inl fV)), (aR, .inl (cI, 5, .inl f13)), (aG, .inl (cI, 400, .inl fG))] H := hP
                    have hD : va_D A [(h0, .inr (16, fs)), (aS, .inl (cI, 6, .inl fS)), (aE, .inl (cI, 3600, .inl fE)), (aL, .inl (cI, 7200, .inl fL)), (aZ, .inl (cI, 720, .inl fZ)), (aM, .inl (cI, 2880, .inl f12)), (aA, .inl (cI, 720, .inl fA)), (aO, .inl (cI, 720, .inl fO)), (aP, .inl (cI, 2880, .inl fP)), (aV, .inl (cI, 2880, .inl fV)), (aR, .inl (cI, 5, .inl f13)), (aG, .inl (cI, 400, .inl fG))] := hD
                    refine lv_aload_n hx hb dX13_makeSimples_183 rfl (lv_at hl 0 rfl) ?_
                    refine va_get (D := (dC, dI)) (ci := 16) (v := .ref aR) (C := RX13) (T := TX13) (N := 120) hx hb hts (fun _ h => List.mem_cons_of_mem _ (List.mem_append_left _ (List.mem_append_right _ h))) hown hK hP 0 rfl rfl 105 (by decide) (hts (.fieldLink RX13 356 "KnotHouseModel" "endRow" "[I") (by decide +kernel)) (fun _ h9 => h9) hkaR dX13_makeSimples_184 ?_
                    refine lv_iload hx hb dX13_makeSimples_187 (lv_at hl 6 rfl) ?_
                    refine lv_iload hx hb dX13_makeSimples_189 (lv_at hl 4 rfl) ?_
                    refine ow_iastU (j := ow_pa n k (j + 1) n) hx hb hK hP hD hS 10 0 rfl rfl rfl (by omega) (by decide) dX13_makeSimples_191 (fun f14 H locs ef14 nf14 hP hD hS => ?_)
                    have hP : va_P (dC, dI) vwCl [(h0, .inr (16, fs)), (aS, .inl (cI, 6, .inl fS)), (aE, .inl (cI, 3600, .inl fE)), (aL, .inl (cI, 7200, .inl fL)), (aZ, .inl (cI, 720, .inl fZ)), (aM, .inl (cI, 2880, .inl f12)), (aA, .inl (cI, 720, .inl fA)), (aO, .inl (cI, 720, .inl fO)), (aP, .inl (cI, 2880, .inl fP)), (aV, .inl (cI, 2880, .inl fV)), (aR, .inl (cI, 5, .inl f14)), (aG, .inl (cI, 400, .inl fG))] H := hP
                    have hD : va_D A [(h0, .inr (16, fs)), (aS, .inl (cI, 6, .inl fS)), (aE, .inl (cI, 3600, .inl fE)), (aL, .inl (cI, 7200, .inl fL)), (aZ, .inl (cI, 720, .inl fZ)), (aM, .inl (cI, 2880, .inl f12)), (aA, .inl (cI, 720, .inl fA)), (aO, .inl (cI, 720, .inl fO)), (aP, .inl (cI, 2880, .inl fP)), (aV, .inl (cI, 2880, .inl fV)), (aR, .inl (cI, 5, .inl f14)), (aG, .inl (cI, 400, .inl fG))] := hD
                    refine lv_aload_n hx hb dX13_makeSimples_192 rfl (lv_at hl 0 rfl) ?_
                    refine lv_iload_n hx hb dX13_makeSimples_193 rfl (lv_at hl 1 rfl) ?_
                    refine lv_aload_n hx hb dX13_makeSimples_194 rfl (lv_at hl 0 rfl) ?_
                    refine va_get (D := (dC, dI)) (ci := 16) (v := .ref aR) (C := RX13) (T := TX13) (N := 120) hx hb hts (fun _ h => List.mem_cons_of_mem _ (List.mem_append_left _ (List.mem_append_right _ h))) hown hK hP 0 rfl rfl 105 (by decide) (hts (.fieldLink RX13 356 "KnotHouseModel" "endRow" "[I") (by decide +kernel)) (fun _ h9 => h9) hkaR dX13_makeSimples_195 ?_
                    have hRw := ow_swR hRr ef13 nf13 ef14 nf14 hk2
                    have hPc := hP.sub (ws' := [(h0, .inr (16, fs)), (aS, .inl (cI, 6, .inl fS)), (aE, .inl (cI, 3600, .inl fE)), (aR, .inl (cI, 5, .inl f14))]) [0, 1, 2, 10] rfl
                    refine va_calli (va_runV (As := [.int (nI n), .ref aR]) (rest := []) ⟨hx, hb, hml, hown, hts⟩ (kf_X13_find l dC dI cI cB cJ cZ h0 aS aE aR fs hfs hkaS hkaE fS fE f14 n (ow_C n k j) h2 h5 (by omega) hJ.1) (cwV 2 hts gf_X13_makeSimples_a rfl rfl rfl (by decide +kernel) ⟨(Nat.le_of_ble_eq_true rfl), (Nat.le_of_ble_eq_true rfl)⟩) ⟨fun a U g mk q => by obtain ⟨q0, qP, qK⟩ := q; exact ⟨q0, qP, va_K.moved (u := U) (U := U.calling g mk a) (Vm.Alike.refl U.vm) qK⟩, va_recv hK hPc (ci := 16) (q0 := 0) rfl rfl, fun U hU hW => ⟨rfl, by rw [hU]; exact hPc, va_K.moved hW.alike hK⟩⟩ rfl rfl hl.1 rfl (lv_room (Nat.le_of_ble_eq_true rfl)) dX13_makeSimples_198 ⟨(Nat.le_of_ble_eq_true rfl), (Nat.le_of_ble_eq_true rfl)⟩) hS (fun q _ h => h.elim) (fun q h => h.elim) (fun xr15 un t H1 locs ht hvm hwxr15 hB hz1 hk1 hS => ?_)
                    have hP := hP.kept (fun k9 x9 h9 => hk1 x9.1 ((hP k9 x9 h9).lt) id)
                    generalize H1 = H at hP hS ⊢
                    rcases hwxr15 with ⟨t9, ht9, hx9, heq9⟩ | ⟨hx9, hno9⟩
                    · subst hx9
                      have hCC : ow_C n k (j + 1) = ow_C n k j := by
                        rcases hk3.2 with ⟨y1, y2⟩ | ⟨y1, y2⟩
                        · exact y2
                        · have y3 := ow_fnd h2 h5 hJ hCc ht9 hk3.1 hRw heq9
                          omega
                      refine lv_istore (lv' := [(7, .int (nI t9)), (0, .ref h0), (1, .int (nI n)), (2, .int (nI k)), (3, .int (nI (120 * n + k))), (4, .int (nI j)), (5, .int (nI (ow_pa n k j n))), (6, .int (nI (ow_pa n k (j + 1) n)))]) hx hb dX13_makeSimples_201 hl (by decide) rfl (fun ls hl => ?_)
                      refine lv_iload hx hb dX13_makeSimples_203 (lv_at hl 0 rfl) ?_
                      refine lv_iconst (v := (-1)) hx hb dX13_makeSimples_205 (by decide) ?_
                      refine lv_icmp_ne (tgt := 349) hx hb dX13_makeSimples_206 (by decide) (fun _ => ?_) (fun c9 => absurd c9 (ow_nm1 t9 (by omega)))
                      refine lv_aload_n hx hb dX13_makeSimples_349 rfl (lv_at hl 1 rfl) ?_
                      refine va_get (D := (dC, dI)) (ci := 16) (v := .ref aM) (C := RX13) (T := TX13) (N := 120) hx hb hts (fun _ h => List.mem_cons_of_mem _ (List.mem_append_left _ (List.mem_append_right _ h))) hown hK hP 0 rfl rfl 100 (by decide) (hts (.fieldLink RX13 341 "KnotHouseModel" "more" "[I") (by decide +kernel)) (fun _ h9 => h9) hkaM dX13_makeSimples_350 ?_
                      refine lv_iconst (v := 4) hx hb dX13_makeSimples_353 (by decide) ?_
                      refine lv_iload_n hx hb dX13_makeSimples_354 rfl (lv_at hl 4 rfl) ?_
                      refine lv_imul hx hb dX13_makeSimples_355 ?_
                      refine ow_topi (y := nI (4 * (120 * n + k))) (pk_mul 4 (120 * n + k)) ?_
                      refine lv_iload hx hb dX13_makeSimples_356 (lv_at hl 5 rfl) ?_
                      refine lv_iadd hx hb dX13_makeSimples_358 ?_
                      refine ow_topi (y := nI (4 * (120 * n + k) + j)) (nI_add (4 * (120 * n + k)) j) ?_
                      refine lv_iload hx hb dX13_makeSimples_359 (lv_at hl 0 rfl) ?_
                      refine ow_topi (y := nI (t9 + 1) - 1) ((nI_pred t9).symm) ?_
                      refine ow_iastU (j := 4 * (120 * n + k) + j) hx hb hK hP hD hS 5 0 rfl rfl rfl (by omega) (by decide) dX13_makeSimples_361 (fun f16 H locs ef16 nf16 hP hD hS => ?_)
                      have hP : va_P (dC, dI) vwCl [(h0, .inr (16, fs)), (aS, .inl (cI, 6, .inl fS)), (aE, .inl (cI, 3600, .inl fE)), (aL, .inl (cI, 7200, .inl fL)), (aZ, .inl (cI, 720, .inl fZ)), (aM, .inl (cI, 2880, .inl f16)), (aA, .inl (cI, 720, .inl fA)), (aO, .inl (cI, 720, .inl fO)), (aP, .inl (cI, 2880, .inl fP)), (aV, .inl (cI, 2880, .inl fV)), (aR, .inl (cI, 5, .inl f14)), (aG, .inl (cI, 400, .inl fG))] H := hP
                      have hD : va_D A [(h0, .inr (16, fs)), (aS, .inl (cI, 6, .inl fS)), (aE, .inl (cI, 3600, .inl fE)), (aL, .inl (cI, 7200, .inl fL)), (aZ, .inl (cI, 720, .inl fZ)), (aM, .inl (cI, 2880, .inl f16)), (aA, .inl (cI, 720, .inl fA)), (aO, .inl (cI, 720, .inl fO)), (aP, .inl (cI, 2880, .inl fP)), (aV, .inl (cI, 2880, .inl fV)), (aR, .inl (cI, 5, .inl f14)), (aG, .inl (cI, 400, .inl fG))] := hD
                      refine lv_iinc (v := nI (j + 1)) (lv' := [(4, .int (nI (j + 1))), (7, .int (nI t9)), (0, .ref h0), (1, .int (nI n)), (2, .int (nI k)), (3, .int (nI (120 * n + k))), (5, .int (nI (ow_pa n k j n))), (6, .int (nI (ow_pa n k (j + 1) n)))]) hx hb dX13_makeSimples_362 hl (k := 5) rfl (nI_1 j) (by decide) rfl (fun ls hl => ?_)
                      refine lv_goto (tgt := 62) hx hb dX13_makeSimples_365 (by decide) ?_
                      have hJ := ow_Jm hJ (r := t9 + 1) (by omega) ef16 nf16
                      rw [← hCC] at hJ
                      exact ih_j (j + 1) (by omega) H locs ls _ _ _ _ _ _ _ _ _ _ _ hP hD hS (lv_sub hl [2, 3, 4, 5, 0] rfl) hJ
                    · subst hx9
                      have hTC : ow_T n k j = ow_C n k j ∧ ow_C n k (j + 1) = ow_C n k j + 1 := by
                        rcases hk3.2 with ⟨y1, y2⟩ | ⟨y1, y2⟩
                        · exact absurd (fun b9 h9 => (hJ.2.1 _ y1 b9 h9).trans (hRw b9 h9).symm) (hno9 _ y1)
                        · exact ⟨y1, y2⟩
                      obtain ⟨hq1, hq2, hq3⟩ := ow_ck4 h2 h5 hkc hj1 hAB hTC.1
                      have hq5 := ow_ck5 h2 h5 hkc hj1 hAB hTC.1
                      have hC1 : ow_C n k j < 120 := by have h9 := hk3.1; omega
                      rw [hTC.1] at hRw hq1 hq3
                      have hq5 : ∀ t, t < ow_Z n k → ow_L n (ow_C n k j) t = ow_L n k t := by rw [hTC.1] at hq5; exact hq5
                      have hz10 : ∀ i, i < ow_C n k j → ow_Z n i ≤ 10 := fun i9 h9 => hfr.2.2.2.2.2 i9 (by omega)
                      have L278 : ∀ (d t : Nat), t + d = ow_Z n k → ∀ (H : Heap) (locs : List Loc) (ls : Array Slot) (fS fE fL fZ fM fA fO fP fV fR fG : Nat → Int32), va_P (dC, dI) vwCl [(h0, .inr (16, fs)), (aS, .inl (cI, 6, .inl fS)), (aE, .inl (cI, 3600, .inl fE)), (aL, .inl (cI, 7200, .inl fL)), (aZ, .inl (cI, 720, .inl fZ)), (aM, .inl (cI, 2880, .inl fM)), (aA, .inl (cI, 720, .inl fA)), (aO, .inl (cI, 720, .inl fO)), (aP, .inl (cI, 2880, .inl fP)), (aV, .inl (cI, 2880, .inl fV)), (aR, .inl (cI, 5, .inl fR)), (aG, .inl (cI, 400, .inl fG))] H → va_D A [(h0, .inr (16, fs)), (aS, .inl (cI, 6, .inl fS)), (aE, .inl (cI, 3600, .inl fE)), (aL, .inl (cI, 7200, .inl fL)), (aZ, .inl (cI, 720, .inl fZ)), (aM, .inl (cI, 2880, .inl fM)), (aA, .inl (cI, 720, .inl fA)), (aO, .inl (cI, 720, .inl fO)), (aP, .inl (cI, 2880, .inl fP)), (aV, .inl (cI, 2880, .inl fV)), (aR, .inl (cI, 5, .inl fR)), (aG, .inl (cI, 400, .inl fG))] → va_S A s.heap H locs → lv_has ls 10 [(0, .ref h0), (1, .int (nI n)), (2, .int (nI k)), (3, .int (nI (120 * n + k))), (4, .int (nI j)), (7, .int (nI (ow_C n k j))), (8, .int (nI (120 * n + ow_C n k j))), (9, .int (nI t))] → ow_J n (ow_C n k j) fS fE fL fZ fM → (∀ a, a < n → fE (5 * (120 * n + ow_C n k j) + a) = nI (ow_E n (ow_C n k j) a)) → fZ (120 * n + ow_C n k j) = nI (ow_Z n (ow_C n k j)) → (∀ u, u < t → fL (10 * (120 * n + ow_C n k j) + u) = nI (ow_L n (ow_C n k j) u)) → W p l e ({ frames := 3, cells := 0, slots := 0, locals := 120 } : Room) s m ([.ref h0] : List Value).toArray below meth c H locs 0 0 QQ (F0 m 278 ls []) := by
                        intro d
                        induction d with
                        | zero =>
                          intro t hv_t H locs ls fS fE fL fZ fM fA fO fP fV fR fG hP hD hS hl hJ hEC hZC hLC
                          refine lv_iload hx hb dX13_makeSimples_278 (lv_at hl 7 rfl) ?_
                          refine lv_aload_n hx hb dX13_makeSimples_280 rfl (lv_at hl 0 rfl) ?_
                          refine va_get (D := (dC, dI)) (ci := 16) (v := .ref aZ) (C := RX13) (T := TX13) (N := 120) hx hb hts (fun _ h => List.mem_cons_of_mem _ (List.mem_append_left _ (List.mem_append_right _ h))) hown hK hP 0 rfl rfl 99 (by decide) (hts (.fieldLink RX13 338 "KnotHouseModel" "sizes" "[I") (by decide +kernel)) (fun _ h9 => h9) hkaZ dX13_makeSimples_281 ?_
                          refine lv_iload_n hx hb dX13_makeSimples_284 rfl (lv_at hl 3 rfl) ?_
                          refine va_iald hx hb hK hP 4 0 rfl rfl (vp_in_nI (n := 120 * n + k) (N := 720) (by omega) (by decide)) dX13_makeSimples_285 ?_
                          refine ow_topi (y := nI (ow_Z n k)) ((congrArg fZ (nI_clamp (n := 120 * n + k) (by omega))).trans (hJ.2.2.1 k hkC)) ?_
                          refine lv_icmp_ge (tgt := 320) hx hb dX13_makeSimples_286 (by decide) (fun _ => ?_) (fun c9 => absurd (nI_le (a := ow_Z n k) (b := t) (by omega) (by omega)) c9)
                          refine lv_aload_n hx hb dX13_makeSimples_320 rfl (lv_at hl 0 rfl) ?_
                          refine va_get (D := (dC, dI)) (ci := 16) (v := .ref aL) (C := RX13) (T := TX13) (N := 120) hx hb hts (fun _ h => List.mem_cons_of_mem _ (List.mem_append_left _ (List.mem_append_right _ h))) hown hK hP 0 rfl rfl 98 (by decide) (hts (.fieldLink RX13 335 "KnotHouseModel" "letters" "[I") (by decide +kernel)) (fun _ h9 => h9) hkaL dX13_makeSimples_321 ?_
                          refine lv_bipush (v := 10) hx hb dX13_makeSimples_324 (by decide) ?_
                          refine lv_iload hx hb dX13_makeSimples_326 (lv_at hl 6 rfl) ?_
                          refine lv_imul hx hb dX13_makeSimples_328 ?_
                          refine ow_topi (y := nI (10 * (120 * n + ow_C n k j))) (pk_mul 10 (120 * n + ow_C n k j)) ?_
                          refine lv_aload_n hx hb dX13_makeSimples_329 rfl (lv_at hl 0 rfl) ?_
                          refine va_get (D := (dC, dI)) (ci := 16) (v := .ref aZ) (C := RX13) (T := TX13) (N := 120) hx hb hts (fun _ h => List.mem_cons_of_mem _ (List.mem_append_left _ (List.mem_append_right _ h))) hown hK hP 0 rfl rfl 99 (by decide) (hts (.fieldLink RX13 338 "KnotHouseModel" "sizes" "[I") (by decide +kernel)) (fun _ h9 => h9) hkaZ dX13_makeSimples_330 ?_
                          refine lv_iload_n hx hb dX13_makeSimples_333 rfl (lv_at hl 3 rfl) ?_
                          refine va_iald hx hb hK hP 4 0 rfl rfl (vp_in_nI (n := 120 * n + k) (N := 720) (by omega) (by decide)) dX13_makeSimples_334 ?_
                          refine ow_topi (y := nI (ow_Z n k)) ((congrArg fZ (nI_clamp (n := 120 * n + k) (by omega))).trans (hJ.2.2.1 k hkC)) ?_
                          refine lv_iadd hx hb dX13_makeSimples_335 ?_
                          refine ow_topi (y := nI (10 * (120 * n + ow_C n k j) + ow_Z n k)) (nI_add (10 * (120 * n + ow_C n k j)) (ow_Z n k)) ?_
                          refine lv_iload hx hb dX13_makeSimples_336 (lv_at hl 4 rfl) ?_
                          refine ow_iastU (j := 10 * (120 * n + ow_C n k j) + ow_Z n k) hx hb hK hP hD hS 3 0 rfl rfl rfl (by omega) (by decide) dX13_makeSimples_338 (fun f19 H locs ef19 nf19 hP hD hS => ?_)
                          have hP : va_P (dC, dI) vwCl [(h0, .inr (16, fs)), (aS, .inl (cI, 6, .inl fS)), (aE, .inl (cI, 3600, .inl fE)), (aL, .inl (cI, 7200, .inl f19)), (aZ, .inl (cI, 720, .inl fZ)), (aM, .inl (cI, 2880, .inl fM)), (aA, .inl (cI, 720, .inl fA)), (aO, .inl (cI, 720, .inl fO)), (aP, .inl (cI, 2880, .inl fP)), (aV, .inl (cI, 2880, .inl fV)), (aR, .inl (cI, 5, .inl fR)), (aG, .inl (cI, 400, .inl fG))] H := hP
                          have hD : va_D A [(h0, .inr (16, fs)), (aS, .inl (cI, 6, .inl fS)), (aE, .inl (cI, 3600, .inl fE)), (aL, .inl (cI, 7200, .inl f19)), (aZ, .inl (cI, 720, .inl fZ)), (aM, .inl (cI, 2880, .inl fM)), (aA, .inl (cI, 720, .inl fA)), (aO, .inl (cI, 720, .inl fO)), (aP, .inl (cI, 2880, .inl fP)), (aV, .inl (cI, 2880, .inl fV)), (aR, .inl (cI, 5, .inl fR)), (aG, .inl (cI, 400, .inl fG))] := hD
                          refine lv_aload_n hx hb dX13_makeSimples_339 rfl (lv_at hl 0 rfl) ?_
                          refine va_get (D := (dC, dI)) (ci := 16) (v := .ref aS) (C := RX13) (T := TX13) (N := 120) hx hb hts (fun _ h => List.mem_cons_of_mem _ (List.mem_append_left _ (List.mem_append_right _ h))) hown hK hP 0 rfl rfl 96 (by decide) (hts (.fieldLink RX13 329 "KnotHouseModel" "simples" "[I") (by decide +kernel)) (fun _ h9 => h9) hkaS dX13_makeSimples_340 ?_
                          refine lv_iload_n hx hb dX13_makeSimples_343 rfl (lv_at hl 1 rfl) ?_
                          refine lv_dup2_11 hx hb dX13_makeSimples_344 rfl rfl ?_
                          refine va_iald hx hb hK hP 1 0 rfl rfl (vp_in_nI (n := n) (N := 6) (by omega) (by decide)) dX13_makeSimples_345 ?_
                          refine ow_topi (y := nI (ow_C n k j)) ((congrArg fS (nI_clamp (n := n) (by omega))).trans (hJ.1)) ?_
                          refine lv_iconst (v := 1) hx hb dX13_makeSimples_346 (by decide) ?_
                          refine lv_iadd hx hb dX13_makeSimples_347 ?_
                          refine ow_topi (y := nI (ow_C n k j + 1)) (nI_1 (ow_C n k j)) ?_
                          refine ow_iastU (j := n) hx hb hK hP hD hS 1 0 rfl rfl rfl (by omega) (by decide) dX13_makeSimples_348 (fun f21 H locs ef21 nf21 hP hD hS => ?_)
                          have hP : va_P (dC, dI) vwCl [(h0, .inr (16, fs)), (aS, .inl (cI, 6, .inl f21)), (aE, .inl (cI, 3600, .inl fE)), (aL, .inl (cI, 7200, .inl f19)), (aZ, .inl (cI, 720, .inl fZ)), (aM, .inl (cI, 2880, .inl fM)), (aA, .inl (cI, 720, .inl fA)), (aO, .inl (cI, 720, .inl fO)), (aP, .inl (cI, 2880, .inl fP)), (aV, .inl (cI, 2880, .inl fV)), (aR, .inl (cI, 5, .inl fR)), (aG, .inl (cI, 400, .inl fG))] H := hP
                          have hD : va_D A [(h0, .inr (16, fs)), (aS, .inl (cI, 6, .inl f21)), (aE, .inl (cI, 3600, .inl fE)), (aL, .inl (cI, 7200, .inl f19)), (aZ, .inl (cI, 720, .inl fZ)), (aM, .inl (cI, 2880, .inl fM)), (aA, .inl (cI, 720, .inl fA)), (aO, .inl (cI, 720, .inl fO)), (aP, .inl (cI, 2880, .inl fP)), (aV, .inl (cI, 2880, .inl fV)), (aR, .inl (cI, 5, .inl fR)), (aG, .inl (cI, 400, .inl fG))] := hD
                          have hJ := ow_Jl hJ hz10 nf19
                          have hJ := ow_Jn hJ ef21 hEC hZC (fun u9 h9 => by
                            rcases Nat.lt_or_ge u9 (ow_Z n k) with y9 | y9
                            · rw [nf19 _ (by omega)]
                              exact hLC u9 (by omega)
                            · have e9 : u9 = ow_Z n k := by omega
                              rw [e9, ef19, hq3])
                          refine lv_aload_n hx hb dX13_makeSimples_349 rfl (lv_at hl 0 rfl) ?_
                          refine va_get (D := (dC, dI)) (ci := 16) (v := .ref aM) (C := RX13) (T := TX13) (N := 120) hx hb hts (fun _ h => List.mem_cons_of_mem _ (List.mem_append_left _ (List.mem_append_right _ h))) hown hK hP 0 rfl rfl 100 (by decide) (hts (.fieldLink RX13 341 "KnotHouseModel" "more" "[I") (by decide +kernel)) (fun _ h9 => h9) hkaM dX13_makeSimples_350 ?_
                          refine lv_iconst (v := 4) hx hb dX13_makeSimples_353 (by decide) ?_
                          refine lv_iload_n hx hb dX13_makeSimples_354 rfl (lv_at hl 3 rfl) ?_
                          refine lv_imul hx hb dX13_makeSimples_355 ?_
                          refine ow_topi (y := nI (4 * (120 * n + k))) (pk_mul 4 (120 * n + k)) ?_
                          refine lv_iload hx hb dX13_makeSimples_356 (lv_at hl 4 rfl) ?_
                          refine lv_iadd hx hb dX13_makeSimples_358 ?_
                          refine ow_topi (y := nI (4 * (120 * n + k) + j)) (nI_add (4 * (120 * n + k)) j) ?_
                          refine lv_iload hx hb dX13_makeSimples_359 (lv_at hl 5 rfl) ?_
                          refine ow_topi (y := nI (ow_C n k j + 1) - 1) ((nI_pred (ow_C n k j)).symm) ?_
                          refine ow_iastU (j := 4 * (120 * n + k) + j) hx hb hK hP hD hS 5 0 rfl rfl rfl (by omega) (by decide) dX13_makeSimples_361 (fun f22 H locs ef22 nf22 hP hD hS => ?_)
                          have hP : va_P (dC, dI) vwCl [(h0, .inr (16, fs)), (aS, .inl (cI, 6, .inl f21)), (aE, .inl (cI, 3600, .inl fE)), (aL, .inl (cI, 7200, .inl f19)), (aZ, .inl (cI, 720, .inl fZ)), (aM, .inl (cI, 2880, .inl f22)), (aA, .inl (cI, 720, .inl fA)), (aO, .inl (cI, 720, .inl fO)), (aP, .inl (cI, 2880, .inl fP)), (aV, .inl (cI, 2880, .inl fV)), (aR, .inl (cI, 5, .inl fR)), (aG, .inl (cI, 400, .inl fG))] H := hP
                          have hD : va_D A [(h0, .inr (16, fs)), (aS, .inl (cI, 6, .inl f21)), (aE, .inl (cI, 3600, .inl fE)), (aL, .inl (cI, 7200, .inl f19)), (aZ, .inl (cI, 720, .inl fZ)), (aM, .inl (cI, 2880, .inl f22)), (aA, .inl (cI, 720, .inl fA)), (aO, .inl (cI, 720, .inl fO)), (aP, .inl (cI, 2880, .inl fP)), (aV, .inl (cI, 2880, .inl fV)), (aR, .inl (cI, 5, .inl fR)), (aG, .inl (cI, 400, .inl fG))] := hD
                          refine lv_iinc (v := nI (j + 1)) (lv' := [(4, .int (nI (j + 1))), (0, .ref h0), (1, .int (nI n)), (2, .int (nI k)), (3, .int (nI (120 * n + k))), (7, .int (nI (ow_C n k j))), (8, .int (nI (120 * n + ow_C n k j))), (9, .int (nI t))]) hx hb dX13_makeSimples_362 hl (k := 4) rfl (nI_1 j) (by decide) rfl (fun ls hl => ?_)
                          refine lv_goto (tgt := 62) hx hb dX13_makeSimples_365 (by decide) ?_
                          have hJ := ow_Jm hJ (r := ow_C n k j + 1) (by omega) ef22 nf22
                          rw [← hTC.2] at hJ
                          exact ih_j (j + 1) (by omega) H locs ls _ _ _ _ _ _ _ _ _ _ _ hP hD hS (lv_sub hl [1, 2, 3, 4, 0] rfl) hJ
                        | succ d ih_t =>
                          intro t hv_t H locs ls fS fE fL fZ fM fA fO fP fV fR fG hP hD hS hl hJ hEC hZC hLC
                          refine lv_iload hx hb dX13_makeSimples_278 (lv_at hl 7 rfl) ?_
                          refine lv_aload_n hx hb dX13_makeSimples_280 rfl (lv_at hl 0 rfl) ?_
                          refine va_get (D := (dC, dI)) (ci := 16) (v := .ref aZ) (C := RX13) (T := TX13) (N := 120) hx hb hts (fun _ h => List.mem_cons_of_mem _ (List.mem_append_left _ (List.mem_append_right _ h))) hown hK hP 0 rfl rfl 99 (by decide) (hts (.fieldLink RX13 338 "KnotHouseModel" "sizes" "[I") (by decide +kernel)) (fun _ h9 => h9) hkaZ dX13_makeSimples_281 ?_
                          refine lv_iload_n hx hb dX13_makeSimples_284 rfl (lv_at hl 3 rfl) ?_
                          refine va_iald hx hb hK hP 4 0 rfl rfl (vp_in_nI (n := 120 * n + k) (N := 720) (by omega) (by decide)) dX13_makeSimples_285 ?_
                          refine ow_topi (y := nI (ow_Z n k)) ((congrArg fZ (nI_clamp (n := 120 * n + k) (by omega))).trans (hJ.2.2.1 k hkC)) ?_
                          refine lv_icmp_ge (tgt := 320) hx hb dX13_makeSimples_286 (by decide) (fun c9 => absurd c9 (nI_ge (a := t) (b := ow_Z n k) (by omega) (by omega))) (fun _ => ?_)
                          refine lv_aload_n hx hb dX13_makeSimples_289 rfl (lv_at hl 0 rfl) ?_
                          refine va_get (D := (dC, dI)) (ci := 16) (v := .ref aL) (C := RX13) (T := TX13) (N := 120) hx hb hts (fun _ h => List.mem_cons_of_mem _ (List.mem_append_left _ (List.mem_append_right _ h))) hown hK hP 0 rfl rfl 98 (by decide) (hts (.fieldLink RX13 335 "KnotHouseModel" "letters" "[I") (by decide +kernel)) (fun _ h9 => h9) hkaL dX13_makeSimples_290 ?_
                          refine lv_bipush (v := 10) hx hb dX13_makeSimples_293 (by decide) ?_
                          refine lv_iload hx hb dX13_makeSimples_295 (lv_at hl 6 rfl) ?_
                          refine lv_imul hx hb dX13_makeSimples_297 ?_
                          refine ow_topi (y := nI (10 * (120 * n + ow_C n k j))) (pk_mul 10 (120 * n + ow_C n k j)) ?_
                          refine lv_iload hx hb dX13_makeSimples_298 (lv_at hl 7 rfl) ?_
                          refine lv_iadd hx hb dX13_makeSimples_300 ?_
                          refine ow_topi (y := nI (10 * (120 * n + ow_C n k j) + t)) (nI_add (10 * (120 * n + ow_C n k j)) t) ?_
                          refine lv_aload_n hx hb dX13_makeSimples_301 rfl (lv_at hl 0 rfl) ?_
                          refine va_get (D := (dC, dI)) (ci := 16) (v := .ref aL) (C := RX13) (T := TX13) (N := 120) hx hb hts (fun _ h => List.mem_cons_of_mem _ (List.mem_append_left _ (List.mem_append_right _ h))) hown hK hP 0 rfl rfl 98 (by decide) (hts (.fieldLink RX13 335 "KnotHouseModel" "letters" "[I") (by decide +kernel)) (fun _ h9 => h9) hkaL dX13_makeSimples_302 ?_
                          refine lv_bipush (v := 10) hx hb dX13_makeSimples_305 (by decide) ?_
                          refine lv_iload_n hx hb dX13_makeSimples_307 rfl (lv_at hl 3 rfl) ?_
                          refine lv_imul hx hb dX13_makeSimples_308 ?_
                          refine ow_topi (y := nI (10 * (120 * n + k))) (pk_mul 10 (120 * n + k)) ?_
                          refine lv_iload hx hb dX13_makeSimples_309 (lv_at hl 7 rfl) ?_
                          refine lv_iadd hx hb dX13_makeSimples_311 ?_
                          refine ow_topi (y := nI (10 * (120 * n + k) + t)) (nI_add (10 * (120 * n + k)) t) ?_
                          refine va_iald hx hb hK hP 3 0 rfl rfl (vp_in_nI (n := 10 * (120 * n + k) + t) (N := 7200) (by omega) (by decide)) dX13_makeSimples_312 ?_
                          refine ow_topi (y := nI (ow_L n (ow_C n k j) t)) ((congrArg fL (nI_clamp (n := 10 * (120 * n + k) + t) (by omega))).trans ((hJ.2.2.2.1 k hkC t (by omega)).trans (congrArg nI (hq5 t (by omega)).symm))) ?_
                          refine ow_iastU (j := 10 * (120 * n + ow_C n k j) + t) hx hb hK hP hD hS 3 0 rfl rfl rfl (by omega) (by decide) dX13_makeSimples_313 (fun f25 H locs ef25 nf25 hP hD hS => ?_)
                          have hP : va_P (dC, dI) vwCl [(h0, .inr (16, fs)), (aS, .inl (cI, 6, .inl fS)), (aE, .inl (cI, 3600, .inl fE)), (aL, .inl (cI, 7200, .inl f25)), (aZ, .inl (cI, 720, .inl fZ)), (aM, .inl (cI, 2880, .inl fM)), (aA, .inl (cI, 720, .inl fA)), (aO, .inl (cI, 720, .inl fO)), (aP, .inl (cI, 2880, .inl fP)), (aV, .inl (cI, 2880, .inl fV)), (aR, .inl (cI, 5, .inl fR)), (aG, .inl (cI, 400, .inl fG))] H := hP
                          have hD : va_D A [(h0, .inr (16, fs)), (aS, .inl (cI, 6, .inl fS)), (aE, .inl (cI, 3600, .inl fE)), (aL, .inl (cI, 7200, .inl f25)), (aZ, .inl (cI, 720, .inl fZ)), (aM, .inl (cI, 2880, .inl fM)), (aA, .inl (cI, 720, .inl fA)), (aO, .inl (cI, 720, .inl fO)), (aP, .inl (cI, 2880, .inl fP)), (aV, .inl (cI, 2880, .inl fV)), (aR, .inl (cI, 5, .inl fR)), (aG, .inl (cI, 400, .inl fG))] := hD
                          refine lv_iinc (v := nI (t + 1)) (lv' := [(9, .int (nI (t + 1))), (0, .ref h0), (1, .int (nI n)), (2, .int (nI k)), (3, .int (nI (120 * n + k))), (4, .int (nI j)), (7, .int (nI (ow_C n k j))), (8, .int (nI (120 * n + ow_C n k j)))]) hx hb dX13_makeSimples_314 hl (k := 7) rfl (nI_1 t) (by decide) rfl (fun ls hl => ?_)
                          refine lv_goto (tgt := 278) hx hb dX13_makeSimples_317 (by decide) ?_
                          refine ih_t (t + 1) (by omega) H locs ls _ _ _ _ _ _ _ _ _ _ _ hP hD hS (lv_sub hl [1, 2, 3, 4, 5, 6, 7, 0] rfl) (ow_Jl hJ hz10 nf25) hEC hZC (fun u9 h9 => ?_)
                          rcases Nat.lt_or_ge u9 t with y9 | y9
                          · rw [nf25 _ (by omega)]
                            exact hLC u9 y9
                          · have e9 : u9 = t := by omega
                            rw [e9, ef25]
                      have L229 : ∀ (d a : Nat), a + d = n → ∀ (H : Heap) (locs : List Loc) (ls : Array Slot) (fS fE fL fZ fM fA fO fP fV fR fG : Nat → Int32), va_P (dC, dI) vwCl [(h0, .inr (16, fs)), (aS, .inl (cI, 6, .inl fS)), (aE, .inl (cI, 3600, .inl fE)), (aL, .inl (cI, 7200, .inl fL)), (aZ, .inl (cI, 720, .inl fZ)), (aM, .inl (cI, 2880, .inl fM)), (aA, .inl (cI, 720, .inl fA)), (aO, .inl (cI, 720, .inl fO)), (aP, .inl (cI, 2880, .inl fP)), (aV, .inl (cI, 2880, .inl fV)), (aR, .inl (cI, 5, .inl fR)), (aG, .inl (cI, 400, .inl fG))] H → va_D A [(h0, .inr (16, fs)), (aS, .inl (cI, 6, .inl fS)), (aE, .inl (cI, 3600, .inl fE)), (aL, .inl (cI, 7200, .inl fL)), (aZ, .inl (cI, 720, .inl fZ)), (aM, .inl (cI, 2880, .inl fM)), (aA, .inl (cI, 720, .inl fA)), (aO, .inl (cI, 720, .inl fO)), (aP, .inl (cI, 2880, .inl fP)), (aV, .inl (cI, 2880, .inl fV)), (aR, .inl (cI, 5, .inl fR)), (aG, .inl (cI, 400, .inl fG))] → va_S A s.heap H locs → lv_has ls 10 [(0, .ref h0), (1, .int (nI n)), (2, .int (nI k)), (3, .int (nI (120 * n + k))), (4, .int (nI j)), (7, .int (nI (ow_C n k j))), (8, .int (nI (120 * n + ow_C n k j))), (9, .int (nI a))] → ow_J n (ow_C n k j) fS fE fL fZ fM → (∀ a, a < n → fR a = nI (ow_E n (ow_C n k j) a)) → (∀ b, b < a → fE (5 * (120 * n + ow_C n k j) + b) = nI (ow_E n (ow_C n k j) b)) → W p l e ({ frames := 3, cells := 0, slots := 0, locals := 120 } : Room) s m ([.ref h0] : List Value).toArray below meth c H locs 0 0 QQ (F0 m 229 ls []) := by
                        intro d
                        induction d with
                        | zero =>
                          intro a hv_a H locs ls fS fE fL fZ fM fA fO fP fV fR fG hP hD hS hl hJ hRw hEC
                          refine lv_iload hx hb dX13_makeSimples_229 (lv_at hl 7 rfl) ?_
                          refine lv_iload_n hx hb dX13_makeSimples_231 rfl (lv_at hl 1 rfl) ?_
                          refine lv_icmp_ge (tgt := 260) hx hb dX13_makeSimples_232 (by decide) (fun _ => ?_) (fun c9 => absurd (nI_le (a := n) (b := a) (by omega) (by omega)) c9)
                          refine lv_aload_n hx hb dX13_makeSimples_260 rfl (lv_at hl 0 rfl) ?_
                          refine va_get (D := (dC, dI)) (ci := 16) (v := .ref aZ) (C := RX13) (T := TX13) (N := 120) hx hb hts (fun _ h => List.mem_cons_of_mem _ (List.mem_append_left _ (List.mem_append_right _ h))) hown hK hP 0 rfl rfl 99 (by decide) (hts (.fieldLink RX13 338 "KnotHouseModel" "sizes" "[I") (by decide +kernel)) (fun _ h9 => h9) hkaZ dX13_makeSimples_261 ?_
                          refine lv_iload hx hb dX13_makeSimples_264 (lv_at hl 6 rfl) ?_
                          refine lv_aload_n hx hb dX13_makeSimples_266 rfl (lv_at hl 0 rfl) ?_
                          refine va_get (D := (dC, dI)) (ci := 16) (v := .ref aZ) (C := RX13) (T := TX13) (N := 120) hx hb hts (fun _ h => List.mem_cons_of_mem _ (List.mem_append_left _ (List.mem_append_right _ h))) hown hK hP 0 rfl rfl 99 (by decide) (hts (.fieldLink RX13 338 "KnotHouseModel" "sizes" "[I") (by decide +kernel)) (fun _ h9 => h9) hkaZ dX13_makeSimples_267 ?_
                          refine lv_iload_n hx hb dX13_makeSimples_270 rfl (lv_at hl 3 rfl) ?_
                          refine va_iald hx hb hK hP 4 0 rfl rfl (vp_in_nI (n := 120 * n + k) (N := 720) (by omega) (by decide)) dX13_makeSimples_271 ?_
                          refine ow_topi (y := nI (ow_Z n k)) ((congrArg fZ (nI_clamp (n := 120 * n + k) (by omega))).trans (hJ.2.2.1 k hkC)) ?_
                          refine lv_iconst (v := 1) hx hb dX13_makeSimples_272 (by decide) ?_
                          refine lv_iadd hx hb dX13_makeSimples_273 ?_
                          refine ow_topi (y := nI (ow_Z n k + 1)) (nI_1 (ow_Z n k)) ?_
                          refine ow_iastU (j := 120 * n + ow_C n k j) hx hb hK hP hD hS 4 0 rfl rfl rfl (by omega) (by decide) dX13_makeSimples_274 (fun f27 H locs ef27 nf27 hP hD hS => ?_)
                          have hP : va_P (dC, dI) vwCl [(h0, .inr (16, fs)), (aS, .inl (cI, 6, .inl fS)), (aE, .inl (cI, 3600, .inl fE)), (aL, .inl (cI, 7200, .inl fL)), (aZ, .inl (cI, 720, .inl f27)), (aM, .inl (cI, 2880, .inl fM)), (aA, .inl (cI, 720, .inl fA)), (aO, .inl (cI, 720, .inl fO)), (aP, .inl (cI, 2880, .inl fP)), (aV, .inl (cI, 2880, .inl fV)), (aR, .inl (cI, 5, .inl fR)), (aG, .inl (cI, 400, .inl fG))] H := hP
                          have hD : va_D A [(h0, .inr (16, fs)), (aS, .inl (cI, 6, .inl fS)), (aE, .inl (cI, 3600, .inl fE)), (aL, .inl (cI, 7200, .inl fL)), (aZ, .inl (cI, 720, .inl f27)), (aM, .inl (cI, 2880, .inl fM)), (aA, .inl (cI, 720, .inl fA)), (aO, .inl (cI, 720, .inl fO)), (aP, .inl (cI, 2880, .inl fP)), (aV, .inl (cI, 2880, .inl fV)), (aR, .inl (cI, 5, .inl fR)), (aG, .inl (cI, 400, .inl fG))] := hD
                          refine lv_iconst (v := 0) hx hb dX13_makeSimples_275 (by decide) ?_
                          refine ow_topi (y := nI 0) (by decide) ?_
                          refine lv_istore (lv' := [(9, .int (nI 0)), (0, .ref h0), (1, .int (nI n)), (2, .int (nI k)), (3, .int (nI (120 * n + k))), (4, .int (nI j)), (7, .int (nI (ow_C n k j))), (8, .int (nI (120 * n + ow_C n k j)))]) hx hb dX13_makeSimples_276 hl (by decide) rfl (fun ls hl => ?_)
                          exact L278 (ow_Z n k) 0 (by omega) H locs ls _ _ _ _ _ _ _ _ _ _ _ hP hD hS (lv_sub hl [1, 2, 3, 4, 5, 6, 7, 0] rfl) (ow_Jz hJ hC1 nf27) (fun a9 h9 => hEC a9 (by omega)) (ef27.trans (congrArg nI hq1.symm)) (fun u9 h9 => absurd h9 (Nat.not_lt_zero u9))
                        | succ d ih_a =>
                          intro a hv_a H locs ls fS fE fL fZ fM fA fO fP fV fR fG hP hD hS hl hJ hRw hEC
                          refine lv_iload hx hb dX13_makeSimples_229 (lv_at hl 7 rfl) ?_
                          refine lv_iload_n hx hb dX13_makeSimples_231 rfl (lv_at hl 1 rfl) ?_
                          refine lv_icmp_ge (tgt := 260) hx hb dX13_makeSimples_232 (by decide) (fun c9 => absurd c9 (nI_ge (a := a) (b := n) (by omega) (by omega))) (fun _ => ?_)
                          refine lv_aload_n hx hb dX13_makeSimples_235 rfl (lv_at hl 0 rfl) ?_
                          refine va_get (D := (dC, dI)) (ci := 16) (v := .ref aE) (C := RX13) (T := TX13) (N := 120) hx hb hts (fun _ h => List.mem_cons_of_mem _ (List.mem_append_left _ (List.mem_append_right _ h))) hown hK hP 0 rfl rfl 97 (by decide) (hts (.fieldLink RX13 332 "KnotHouseModel" "ends" "[I") (by decide +kernel)) (fun _ h9 => h9) hkaE dX13_makeSimples_236 ?_
                          refine lv_iconst (v := 5) hx hb dX13_makeSimples_239 (by decide) ?_
                          refine lv_iload hx hb dX13_makeSimples_240 (lv_at hl 6 rfl) ?_
                          refine lv_imul hx hb dX13_makeSimples_242 ?_
                          refine ow_topi (y := nI (5 * (120 * n + ow_C n k j))) (pk_mul 5 (120 * n + ow_C n k j)) ?_
                          refine lv_iload hx hb dX13_makeSimples_243 (lv_at hl 7 rfl) ?_
                          refine lv_iadd hx hb dX13_makeSimples_245 ?_
                          refine ow_topi (y := nI (5 * (120 * n + ow_C n k j) + a)) (nI_add (5 * (120 * n + ow_C n k j)) a) ?_
                          refine lv_aload_n hx hb dX13_makeSimples_246 rfl (lv_at hl 0 rfl) ?_
                          refine va_get (D := (dC, dI)) (ci := 16) (v := .ref aR) (C := RX13) (T := TX13) (N := 120) hx hb hts (fun _ h => List.mem_cons_of_mem _ (List.mem_append_left _ (List.mem_append_right _ h))) hown hK hP 0 rfl rfl 105 (by decide) (hts (.fieldLink RX13 356 "KnotHouseModel" "endRow" "[I") (by decide +kernel)) (fun _ h9 => h9) hkaR dX13_makeSimples_247 ?_
                          refine lv_iload hx hb dX13_makeSimples_250 (lv_at hl 7 rfl) ?_
                          refine va_iald hx hb hK hP 10 0 rfl rfl (vp_in_nI (n := a) (N := 5) (by omega) (by decide)) dX13_makeSimples_252 ?_
                          refine ow_topi (y := nI (ow_E n (ow_C n k j) a)) ((congrArg fR (nI_clamp (n := a) (by omega))).trans (hRw a (by omega))) ?_
                          refine ow_iastU (j := 5 * (120 * n + ow_C n k j) + a) hx hb hK hP hD hS 2 0 rfl rfl rfl (by omega) (by decide) dX13_makeSimples_253 (fun f29 H locs ef29 nf29 hP hD hS => ?_)
                          have hP : va_P (dC, dI) vwCl [(h0, .inr (16, fs)), (aS, .inl (cI, 6, .inl fS)), (aE, .inl (cI, 3600, .inl f29)), (aL, .inl (cI, 7200, .inl fL)), (aZ, .inl (cI, 720, .inl fZ)), (aM, .inl (cI, 2880, .inl fM)), (aA, .inl (cI, 720, .inl fA)), (aO, .inl (cI, 720, .inl fO)), (aP, .inl (cI, 2880, .inl fP)), (aV, .inl (cI, 2880, .inl fV)), (aR, .inl (cI, 5, .inl fR)), (aG, .inl (cI, 400, .inl fG))] H := hP
                          have hD : va_D A [(h0, .inr (16, fs)), (aS, .inl (cI, 6, .inl fS)), (aE, .inl (cI, 3600, .inl f29)), (aL, .inl (cI, 7200, .inl fL)), (aZ, .inl (cI, 720, .inl fZ)), (aM, .inl (cI, 2880, .inl fM)), (aA, .inl (cI, 720, .inl fA)), (aO, .inl (cI, 720, .inl fO)), (aP, .inl (cI, 2880, .inl fP)), (aV, .inl (cI, 2880, .inl fV)), (aR, .inl (cI, 5, .inl fR)), (aG, .inl (cI, 400, .inl fG))] := hD
                          refine lv_iinc (v := nI (a + 1)) (lv' := [(9, .int (nI (a + 1))), (0, .ref h0), (1, .int (nI n)), (2, .int (nI k)), (3, .int (nI (120 * n + k))), (4, .int (nI j)), (7, .int (nI (ow_C n k j))), (8, .int (nI (120 * n + ow_C n k j)))]) hx hb dX13_makeSimples_254 hl (k := 7) rfl (nI_1 a) (by decide) rfl (fun ls hl => ?_)
                          refine lv_goto (tgt := 229) hx hb dX13_makeSimples_257 (by decide) ?_
                          refine ih_a (a + 1) (by omega) H locs ls _ _ _ _ _ _ _ _ _ _ _ hP hD hS (lv_sub hl [1, 2, 3, 4, 5, 6, 7, 0] rfl) (ow_Je hJ h5 nf29) hRw (fun u9 h9 => ?_)
                          rcases Nat.lt_or_ge u9 a with y9 | y9
                          · rw [nf29 _ (by omega)]
                            exact hEC u9 y9
                          · have e9 : u9 = a := by omega
                            rw [e9, ef29]
                      refine lv_istore (lv' := [(7, .int (-1)), (0, .ref h0), (1, .int (nI n)), (2, .int (nI k)), (3, .int (nI (120 * n + k))), (4, .int (nI j)), (5, .int (nI (ow_pa n k j n))), (6, .int (nI (ow_pa n k (j + 1) n)))]) hx hb dX13_makeSimples_201 hl (by decide) rfl (fun ls hl => ?_)
                      refine lv_iload hx hb dX13_makeSimples_203 (lv_at hl 0 rfl) ?_
                      refine lv_iconst (v := (-1)) hx hb dX13_makeSimples_205 (by decide) ?_
                      refine lv_icmp_ne (tgt := 349) hx hb dX13_makeSimples_206 (by decide) (fun c9 => absurd c9 (not_not_intro rfl)) (fun _ => ?_)
                      refine lv_aload_n hx hb dX13_makeSimples_209 rfl (lv_at hl 1 rfl) ?_
                      refine va_get (D := (dC, dI)) (ci := 16) (v := .ref aS) (C := RX13) (T := TX13) (N := 120) hx hb hts (fun _ h => List.mem_cons_of_mem _ (List.mem_append_left _ (List.mem_append_right _ h))) hown hK hP 0 rfl rfl 96 (by decide) (hts (.fieldLink RX13 329 "KnotHouseModel" "simples" "[I") (by decide +kernel)) (fun _ h9 => h9) hkaS dX13_makeSimples_210 ?_
                      refine lv_iload_n hx hb dX13_makeSimples_213 rfl (lv_at hl 2 rfl) ?_
                      refine va_iald hx hb hK hP 1 0 rfl rfl (vp_in_nI (n := n) (N := 6) (by omega) (by decide)) dX13_makeSimples_214 ?_
                      refine ow_topi (y := nI (ow_C n k j)) ((congrArg fS (nI_clamp (n := n) (by omega))).trans (hJ.1)) ?_
                      refine lv_istore (lv' := [(7, .int (nI (ow_C n k j))), (0, .ref h0), (1, .int (nI n)), (2, .int (nI k)), (3, .int (nI (120 * n + k))), (4, .int (nI j)), (5, .int (nI (ow_pa n k j n))), (6, .int (nI (ow_pa n k (j + 1) n)))]) hx hb dX13_makeSimples_215 hl (by decide) rfl (fun ls hl => ?_)
                      refine lv_bipush (v := 120) hx hb dX13_makeSimples_217 (by decide) ?_
                      refine lv_iload_n hx hb dX13_makeSimples_219 rfl (lv_at hl 2 rfl) ?_
                      refine lv_imul hx hb dX13_makeSimples_220 ?_
                      refine ow_topi (y := nI (120 * n)) (pk_mul 120 n) ?_
                      refine lv_iload hx hb dX13_makeSimples_221 (lv_at hl 0 rfl) ?_
                      refine lv_iadd hx hb dX13_makeSimples_223 ?_
                      refine ow_topi (y := nI (120 * n + ow_C n k j)) (nI_add (120 * n) (ow_C n k j)) ?_
                      refine lv_istore (lv' := [(8, .int (nI (120 * n + ow_C n k j))), (7, .int (nI (ow_C n k j))), (0, .ref h0), (1, .int (nI n)), (2, .int (nI k)), (3, .int (nI (120 * n + k))), (4, .int (nI j)), (5, .int (nI (ow_pa n k j n))), (6, .int (nI (ow_pa n k (j + 1) n)))]) hx hb dX13_makeSimples_224 hl (by decide) rfl (fun ls hl => ?_)
                      refine lv_iconst (v := 0) hx hb dX13_makeSimples_226 (by decide) ?_
                      refine ow_topi (y := nI 0) (by decide) ?_
                      refine lv_istore (lv' := [(9, .int (nI 0)), (8, .int (nI (120 * n + ow_C n k j))), (7, .int (nI (ow_C n k j))), (0, .ref h0), (1, .int (nI n)), (2, .int (nI k)), (3, .int (nI (120 * n + k))), (4, .int (nI j)), (5, .int (nI (ow_pa n k j n))), (6, .int (nI (ow_pa n k (j + 1) n)))]) hx hb dX13_makeSimples_227 hl (by decide) rfl (fun ls hl => ?_)
                      exact L229 n 0 (by omega) H locs ls _ _ _ _ _ _ _ _ _ _ _ hP hD hS (lv_sub hl [3, 4, 5, 6, 7, 2, 1, 0] rfl) hJ hRw (fun u9 h9 => absurd h9 (Nat.not_lt_zero u9))
                  · refine lv_iload hx hb dX13_makeSimples_165 (lv_at hl 5 rfl) ?_
                    refine lv_iload hx hb dX13_makeSimples_167 (lv_at hl 6 rfl) ?_
                    refine lv_icmp_ge (tgt := 362) hx hb dX13_makeSimples_169 (by decide) (fun _ => ?_) (fun c9 => absurd (nI_le (a := ow_pa n k (j + 1) n) (b := ow_pa n k j n) (by omega) (by omega)) c9)
                    refine lv_iinc (v := nI (j + 1)) (lv' := [(4, .int (nI (j + 1))), (0, .ref h0), (1, .int (nI n)), (2, .int (nI k)), (3, .int (nI (120 * n + k))), (5, .int (nI (ow_pa n k j n))), (6, .int (nI (ow_pa n k (j + 1) n))), (7, .int (nI n))]) hx hb dX13_makeSimples_362 hl (k := 4) rfl (nI_1 j) (by decide) rfl (fun ls hl => ?_)
                    refine lv_goto (tgt := 62) hx hb dX13_makeSimples_365 (by decide) ?_
                    rw [← hCe hAB] at hJ
                    exact ih_j (j + 1) (by omega) H locs ls _ _ _ _ _ _ _ _ _ _ _ hP hD hS (lv_sub hl [1, 2, 3, 4, 0] rfl) hJ
                | succ d ih_t =>
                  intro t hv_t H locs ls fS fE fL fZ fM fA fO fP fV fR fG hP hD hS hl hJ hRr
                  refine lv_iload hx hb dX13_makeSimples_79 (lv_at hl 7 rfl) ?_
                  refine lv_iload_n hx hb dX13_makeSimples_81 rfl (lv_at hl 1 rfl) ?_
                  refine lv_icmp_ge (tgt := 153) hx hb dX13_makeSimples_82 (by decide) (fun c9 => absurd c9 (nI_ge (a := t) (b := n) (by omega) (by omega))) (fun _ => ?_)
                  refine lv_aload_n hx hb dX13_makeSimples_85 rfl (lv_at hl 0 rfl) ?_
                  refine va_get (D := (dC, dI)) (ci := 16) (v := .ref aR) (C := RX13) (T := TX13) (N := 120) hx hb hts (fun _ h => List.mem_cons_of_mem _ (List.mem_append_left _ (List.mem_append_right _ h))) hown hK hP 0 rfl rfl 105 (by decide) (hts (.fieldLink RX13 356 "KnotHouseModel" "endRow" "[I") (by decide +kernel)) (fun _ h9 => h9) hkaR dX13_makeSimples_86 ?_
                  refine lv_iload hx hb dX13_makeSimples_89 (lv_at hl 7 rfl) ?_
                  refine lv_aload_n hx hb dX13_makeSimples_91 rfl (lv_at hl 0 rfl) ?_
                  refine va_get (D := (dC, dI)) (ci := 16) (v := .ref aE) (C := RX13) (T := TX13) (N := 120) hx hb hts (fun _ h => List.mem_cons_of_mem _ (List.mem_append_left _ (List.mem_append_right _ h))) hown hK hP 0 rfl rfl 97 (by decide) (hts (.fieldLink RX13 332 "KnotHouseModel" "ends" "[I") (by decide +kernel)) (fun _ h9 => h9) hkaE dX13_makeSimples_92 ?_
                  refine lv_iconst (v := 5) hx hb dX13_makeSimples_95 (by decide) ?_
                  refine lv_iload_n hx hb dX13_makeSimples_96 rfl (lv_at hl 3 rfl) ?_
                  refine lv_imul hx hb dX13_makeSimples_97 ?_
                  refine ow_topi (y := nI (5 * (120 * n + k))) (pk_mul 5 (120 * n + k)) ?_
                  refine lv_iload hx hb dX13_makeSimples_98 (lv_at hl 7 rfl) ?_
                  refine lv_iadd hx hb dX13_makeSimples_100 ?_
                  refine ow_topi (y := nI (5 * (120 * n + k) + t)) (nI_add (5 * (120 * n + k)) t) ?_
                  refine va_iald hx hb hK hP 2 0 rfl rfl (vp_in_nI (n := 5 * (120 * n + k) + t) (N := 3600) (by omega) (by decide)) dX13_makeSimples_101 ?_
                  refine ow_topi (y := nI (ow_E n k t)) ((congrArg fE (nI_clamp (n := 5 * (120 * n + k) + t) (by omega))).trans (hJ.2.1 k hkC t (by omega))) ?_
                  refine ow_iastU (j := t) hx hb hK hP hD hS 10 0 rfl rfl rfl (by omega) (by decide) dX13_makeSimples_102 (fun f32 H locs ef32 nf32 hP hD hS => ?_)
                  have hP : va_P (dC, dI) vwCl [(h0, .inr (16, fs)), (aS, .inl (cI, 6, .inl fS)), (aE, .inl (cI, 3600, .inl fE)), (aL, .inl (cI, 7200, .inl fL)), (aZ, .inl (cI, 720, .inl fZ)), (aM, .inl (cI, 2880, .inl fM)), (aA, .inl (cI, 720, .inl fA)), (aO, .inl (cI, 720, .inl fO)), (aP, .inl (cI, 2880, .inl fP)), (aV, .inl (cI, 2880, .inl fV)), (aR, .inl (cI, 5, .inl f32)), (aG, .inl (cI, 400, .inl fG))] H := hP
                  have hD : va_D A [(h0, .inr (16, fs)), (aS, .inl (cI, 6, .inl fS)), (aE, .inl (cI, 3600, .inl fE)), (aL, .inl (cI, 7200, .inl fL)), (aZ, .inl (cI, 720, .inl fZ)), (aM, .inl (cI, 2880, .inl fM)), (aA, .inl (cI, 720, .inl fA)), (aO, .inl (cI, 720, .inl fO)), (aP, .inl (cI, 2880, .inl fP)), (aV, .inl (cI, 2880, .inl fV)), (aR, .inl (cI, 5, .inl f32)), (aG, .inl (cI, 400, .inl fG))] := hD
                  by_cases q1 : ow_E n k t = j
                  · by_cases q2 : ow_E n k t = j + 1
                    · refine lv_aload_n hx hb dX13_makeSimples_103 rfl (lv_at hl 0 rfl) ?_
                      refine va_get (D := (dC, dI)) (ci := 16) (v := .ref aR) (C := RX13) (T := TX13) (N := 120) hx hb hts (fun _ h => List.mem_cons_of_mem _ (List.mem_append_left _ (List.mem_append_right _ h))) hown hK hP 0 rfl rfl 105 (by decide) (hts (.fieldLink RX13 356 "KnotHouseModel" "endRow" "[I") (by decide +kernel)) (fun _ h9 => h9) hkaR dX13_makeSimples_104 ?_
                      refine lv_iload hx hb dX13_makeSimples_107 (lv_at hl 7 rfl) ?_
                      refine va_iald hx hb hK hP 10 0 rfl rfl (vp_in_nI (n := t) (N := 5) (by omega) (by decide)) dX13_makeSimples_109 ?_
                      refine ow_topi (y := nI (ow_E n k t)) ((congrArg f32 (nI_clamp (n := t) (by omega))).trans (ef32)) ?_
                      refine lv_iload hx hb dX13_makeSimples_110 (lv_at hl 4 rfl) ?_
                      refine lv_icmp_ne (tgt := 120) hx hb dX13_makeSimples_112 (by decide) (fun c9 => absurd c9 (not_not_intro (congrArg nI q1))) (fun _ => ?_)
                      refine lv_iload hx hb dX13_makeSimples_115 (lv_at hl 7 rfl) ?_
                      refine lv_goto (tgt := 122) hx hb dX13_makeSimples_117 (by decide) ?_
                      refine ow_topi (y := nI (ow_pa n k j (t + 1))) (congrArg nI (ow_pa_t q1).symm) ?_
                      refine lv_istore (lv' := [(5, .int (nI (ow_pa n k j (t + 1)))), (0, .ref h0), (1, .int (nI n)), (2, .int (nI k)), (3, .int (nI (120 * n + k))), (4, .int (nI j)), (6, .int (nI (ow_pa n k (j + 1) t))), (7, .int (nI t))]) hx hb dX13_makeSimples_122 hl (by decide) rfl (fun ls hl => ?_)
                      refine lv_aload_n hx hb dX13_makeSimples_124 rfl (lv_at hl 1 rfl) ?_
                      refine va_get (D := (dC, dI)) (ci := 16) (v := .ref aR) (C := RX13) (T := TX13) (N := 120) hx hb hts (fun _ h => List.mem_cons_of_mem _ (List.mem_append_left _ (List.mem_append_right _ h))) hown hK hP 0 rfl rfl 105 (by decide) (hts (.fieldLink RX13 356 "KnotHouseModel" "endRow" "[I") (by decide +kernel)) (fun _ h9 => h9) hkaR dX13_makeSimples_125 ?_
                      refine lv_iload hx hb dX13_makeSimples_128 (lv_at hl 7 rfl) ?_
                      refine va_iald hx hb hK hP 10 0 rfl rfl (vp_in_nI (n := t) (N := 5) (by omega) (by decide)) dX13_makeSimples_130 ?_
                      refine ow_topi (y := nI (ow_E n k t)) ((congrArg f32 (nI_clamp (n := t) (by omega))).trans (ef32)) ?_
                      refine lv_iload hx hb dX13_makeSimples_131 (lv_at hl 5 rfl) ?_
                      refine lv_iconst (v := 1) hx hb dX13_makeSimples_133 (by decide) ?_
                      refine lv_iadd hx hb dX13_makeSimples_134 ?_
                      refine ow_topi (y := nI (j + 1)) (nI_1 j) ?_
                      refine lv_icmp_ne (tgt := 143) hx hb dX13_makeSimples_135 (by decide) (fun c9 => absurd c9 (not_not_intro (congrArg nI q2))) (fun _ => ?_)
                      refine lv_iload hx hb dX13_makeSimples_138 (lv_at hl 7 rfl) ?_
                      refine lv_goto (tgt := 145) hx hb dX13_makeSimples_140 (by decide) ?_
                      refine ow_topi (y := nI (ow_pa n k (j + 1) (t + 1))) (congrArg nI (ow_pa_t q2).symm) ?_
                      refine lv_istore (lv' := [(6, .int (nI (ow_pa n k (j + 1) (t + 1)))), (5, .int (nI (ow_pa n k j (t + 1)))), (0, .ref h0), (1, .int (nI n)), (2, .int (nI k)), (3, .int (nI (120 * n + k))), (4, .int (nI j)), (7, .int (nI t))]) hx hb dX13_makeSimples_145 hl (by decide) rfl (fun ls hl => ?_)
                      refine lv_iinc (v := nI (t + 1)) (lv' := [(7, .int (nI (t + 1))), (6, .int (nI (ow_pa n k (j + 1) (t + 1)))), (5, .int (nI (ow_pa n k j (t + 1)))), (0, .ref h0), (1, .int (nI n)), (2, .int (nI k)), (3, .int (nI (120 * n + k))), (4, .int (nI j))]) hx hb dX13_makeSimples_147 hl (k := 7) rfl (nI_1 t) (by decide) rfl (fun ls hl => ?_)
                      refine lv_goto (tgt := 79) hx hb dX13_makeSimples_150 (by decide) ?_
                      refine ih_t (t + 1) (by omega) H locs ls _ _ _ _ _ _ _ _ _ _ _ hP hD hS (lv_sub hl [3, 4, 5, 6, 7, 2, 1, 0] rfl) hJ (fun u9 h9 => ?_)
                      rcases Nat.lt_or_ge u9 t with y9 | y9
                      · rw [nf32 u9 (by omega)]
                        exact hRr u9 y9
                      · have e9 : u9 = t := by omega
                        rw [e9, ef32]
                    · refine lv_aload_n hx hb dX13_makeSimples_103 rfl (lv_at hl 0 rfl) ?_
                      refine va_get (D := (dC, dI)) (ci := 16) (v := .ref aR) (C := RX13) (T := TX13) (N := 120) hx hb hts (fun _ h => List.mem_cons_of_mem _ (List.mem_append_left _ (List.mem_append_right _ h))) hown hK hP 0 rfl rfl 105 (by decide) (hts (.fieldLink RX13 356 "KnotHouseModel" "endRow" "[I") (by decide +kernel)) (fun _ h9 => h9) hkaR dX13_makeSimples_104 ?_
                      refine lv_iload hx hb dX13_makeSimples_107 (lv_at hl 7 rfl) ?_
                      refine va_iald hx hb hK hP 10 0 rfl rfl (vp_in_nI (n := t) (N := 5) (by omega) (by decide)) dX13_makeSimples_109 ?_
                      refine ow_topi (y := nI (ow_E n k t)) ((congrArg f32 (nI_clamp (n := t) (by omega))).trans (ef32)) ?_
                      refine lv_iload hx hb dX13_makeSimples_110 (lv_at hl 4 rfl) ?_
                      refine lv_icmp_ne (tgt := 120) hx hb dX13_makeSimples_112 (by decide) (fun c9 => absurd c9 (not_not_intro (congrArg nI q1))) (fun _ => ?_)
                      refine lv_iload hx hb dX13_makeSimples_115 (lv_at hl 7 rfl) ?_
                      refine lv_goto (tgt := 122) hx hb dX13_makeSimples_117 (by decide) ?_
                      refine ow_topi (y := nI (ow_pa n k j (t + 1))) (congrArg nI (ow_pa_t q1).symm) ?_
                      refine lv_istore (lv' := [(5, .int (nI (ow_pa n k j (t + 1)))), (0, .ref h0), (1, .int (nI n)), (2, .int (nI k)), (3, .int (nI (120 * n + k))), (4, .int (nI j)), (6, .int (nI (ow_pa n k (j + 1) t))), (7, .int (nI t))]) hx hb dX13_makeSimples_122 hl (by decide) rfl (fun ls hl => ?_)
                      refine lv_aload_n hx hb dX13_makeSimples_124 rfl (lv_at hl 1 rfl) ?_
                      refine va_get (D := (dC, dI)) (ci := 16) (v := .ref aR) (C := RX13) (T := TX13) (N := 120) hx hb hts (fun _ h => List.mem_cons_of_mem _ (List.mem_append_left _ (List.mem_append_right _ h))) hown hK hP 0 rfl rfl 105 (by decide) (hts (.fieldLink RX13 356 "KnotHouseModel" "endRow" "[I") (by decide +kernel)) (fun _ h9 => h9) hkaR dX13_makeSimples_125 ?_
                      refine lv_iload hx hb dX13_makeSimples_128 (lv_at hl 7 rfl) ?_
                      refine va_iald hx hb hK hP 10 0 rfl rfl (vp_in_nI (n := t) (N := 5) (by omega) (by decide)) dX13_makeSimples_130 ?_
                      refine ow_topi (y := nI (ow_E n k t)) ((congrArg f32 (nI_clamp (n := t) (by omega))).trans (ef32)) ?_
                      refine lv_iload hx hb dX13_makeSimples_131 (lv_at hl 5 rfl) ?_
                      refine lv_iconst (v := 1) hx hb dX13_makeSimples_133 (by decide) ?_
                      refine lv_iadd hx hb dX13_makeSimples_134 ?_
                      refine ow_topi (y := nI (j + 1)) (nI_1 j) ?_
                      refine lv_icmp_ne (tgt := 143) hx hb dX13_makeSimples_135 (by decide) (fun _ => ?_) (fun c9 => absurd c9 (fun h9 => q2 (ow_inj8 _ (ow_E8 n k t) _ (by omega) h9)))
                      refine lv_iload hx hb dX13_makeSimples_143 (lv_at hl 6 rfl) ?_
                      refine ow_topi (y := nI (ow_pa n k (j + 1) (t + 1))) (congrArg nI (ow_pa_f q2).symm) ?_
                      refine lv_istore (lv' := [(6, .int (nI (ow_pa n k (j + 1) (t + 1)))), (5, .int (nI (ow_pa n k j (t + 1)))), (0, .ref h0), (1, .int (nI n)), (2, .int (nI k)), (3, .int (nI (120 * n + k))), (4, .int (nI j)), (7, .int (nI t))]) hx hb dX13_makeSimples_145 hl (by decide) rfl (fun ls hl => ?_)
                      refine lv_iinc (v := nI (t + 1)) (lv' := [(7, .int (nI (t + 1))), (6, .int (nI (ow_pa n k (j + 1) (t + 1)))), (5, .int (nI (ow_pa n k j (t + 1)))), (0, .ref h0), (1, .int (nI n)), (2, .int (nI k)), (3, .int (nI (120 * n + k))), (4, .int (nI j))]) hx hb dX13_makeSimples_147 hl (k := 7) rfl (nI_1 t) (by decide) rfl (fun ls hl => ?_)
                      refine lv_goto (tgt := 79) hx hb dX13_makeSimples_150 (by decide) ?_
                      refine ih_t (t + 1) (by omega) H locs ls _ _ _ _ _ _ _ _ _ _ _ hP hD hS (lv_sub hl [3, 4, 5, 6, 7, 2, 1, 0] rfl) hJ (fun u9 h9 => ?_)
                      rcases Nat.lt_or_ge u9 t with y9 | y9
                      · rw [nf32 u9 (by omega)]
                        exact hRr u9 y9
                      · have e9 : u9 = t := by omega
                        rw [e9, ef32]
                  · by_cases q2 : ow_E n k t = j + 1
                    · refine lv_aload_n hx hb dX13_makeSimples_103 rfl (lv_at hl 0 rfl) ?_
                      refine va_get (D := (dC, dI)) (ci := 16) (v := .ref aR) (C := RX13) (T := TX13) (N := 120) hx hb hts (fun _ h => List.mem_cons_of_mem _ (List.mem_append_left _ (List.mem_append_right _ h))) hown hK hP 0 rfl rfl 105 (by decide) (hts (.fieldLink RX13 356 "KnotHouseModel" "endRow" "[I") (by decide +kernel)) (fun _ h9 => h9) hkaR dX13_makeSimples_104 ?_
                      refine lv_iload hx hb dX13_makeSimples_107 (lv_at hl 7 rfl) ?_
                      refine va_iald hx hb hK hP 10 0 rfl rfl (vp_in_nI (n := t) (N := 5) (by omega) (by decide)) dX13_makeSimples_109 ?_
                      refine ow_topi (y := nI (ow_E n k t)) ((congrArg f32 (nI_clamp (n := t) (by omega))).trans (ef32)) ?_
                      refine lv_iload hx hb dX13_makeSimples_110 (lv_at hl 4 rfl) ?_
                      refine lv_icmp_ne (tgt := 120) hx hb dX13_makeSimples_112 (by decide) (fun _ => ?_) (fun c9 => absurd c9 (fun h9 => q1 (ow_inj8 _ (ow_E8 n k t) _ (by omega) h9)))
                      refine lv_iload hx hb dX13_makeSimples_120 (lv_at hl 5 rfl) ?_
                      refine ow_topi (y := nI (ow_pa n k j (t + 1))) (congrArg nI (ow_pa_f q1).symm) ?_
                      refine lv_istore (lv' := [(5, .int (nI (ow_pa n k j (t + 1)))), (0, .ref h0), (1, .int (nI n)), (2, .int (nI k)), (3, .int (nI (120 * n + k))), (4, .int (nI j)), (6, .int (nI (ow_pa n k (j + 1) t))), (7, .int (nI t))]) hx hb dX13_makeSimples_122 hl (by decide) rfl (fun ls hl => ?_)
                      refine lv_aload_n hx hb dX13_makeSimples_124 rfl (lv_at hl 1 rfl) ?_
                      refine va_get (D := (dC, dI)) (ci := 16) (v := .ref aR) (C := RX13) (T := TX13) (N := 120) hx hb hts (fun _ h => List.mem_cons_of_mem _ (List.mem_append_left _ (List.mem_append_right _ h))) hown hK hP 0 rfl rfl 105 (by decide) (hts (.fieldLink RX13 356 "KnotHouseModel" "endRow" "[I") (by decide +kernel)) (fun _ h9 => h9) hkaR dX13_makeSimples_125 ?_
                      refine lv_iload hx hb dX13_makeSimples_128 (lv_at hl 7 rfl) ?_
                      refine va_iald hx hb hK hP 10 0 rfl rfl (vp_in_nI (n := t) (N := 5) (by omega) (by decide)) dX13_makeSimples_130 ?_
                      refine ow_topi (y := nI (ow_E n k t)) ((congrArg f32 (nI_clamp (n := t) (by omega))).trans (ef32)) ?_
                      refine lv_iload hx hb dX13_makeSimples_131 (lv_at hl 5 rfl) ?_
                      refine lv_iconst (v := 1) hx hb dX13_makeSimples_133 (by decide) ?_
                      refine lv_iadd hx hb dX13_makeSimples_134 ?_
                      refine ow_topi (y := nI (j + 1)) (nI_1 j) ?_
                      refine lv_icmp_ne (tgt := 143) hx hb dX13_makeSimples_135 (by decide) (fun c9 => absurd c9 (not_not_intro (congrArg nI q2))) (fun _ => ?_)
                      refine lv_iload hx hb dX13_makeSimples_138 (lv_at hl 7 rfl) ?_
                      refine lv_goto (tgt := 145) hx hb dX13_makeSimples_140 (by decide) ?_
                      refine ow_topi (y := nI (ow_pa n k (j + 1) (t + 1))) (congrArg nI (ow_pa_t q2).symm) ?_
                      refine lv_istore (lv' := [(6, .int (nI (ow_pa n k (j + 1) (t + 1)))), (5, .int (nI (ow_pa n k j (t + 1)))), (0, .ref h0), (1, .int (nI n)), (2, .int (nI k)), (3, .int (nI (120 * n + k))), (4, .int (nI j)), (7, .int (nI t))]) hx hb dX13_makeSimples_145 hl (by decide) rfl (fun ls hl => ?_)
                      refine lv_iinc (v := nI (t + 1)) (lv' := [(7, .int (nI (t + 1))), (6, .int (nI (ow_pa n k (j + 1) (t + 1)))), (5, .int (nI (ow_pa n k j (t + 1)))), (0, .ref h0), (1, .int (nI n)), (2, .int (nI k)), (3, .int (nI (120 * n + k))), (4, .int (nI j))]) hx hb dX13_makeSimples_147 hl (k := 7) rfl (nI_1 t) (by decide) rfl (fun ls hl => ?_)
                      refine lv_goto (tgt := 79) hx hb dX13_makeSimples_150 (by decide) ?_
                      refine ih_t (t + 1) (by omega) H locs ls _ _ _ _ _ _ _ _ _ _ _ hP hD hS (lv_sub hl [3, 4, 5, 6, 7, 2, 1, 0] rfl) hJ (fun u9 h9 => ?_)
                      rcases Nat.lt_or_ge u9 t with y9 | y9
                      · rw [nf32 u9 (by omega)]
                        exact hRr u9 y9
                      · have e9 : u9 = t := by omega
                        rw [e9, ef32]
                    · refine lv_aload_n hx hb dX13_makeSimples_103 rfl (lv_at hl 0 rfl) ?_
                      refine va_get (D := (dC, dI)) (ci := 16) (v := .ref aR) (C := RX13) (T := TX13) (N := 120) hx hb hts (fun _ h => List.mem_cons_of_mem _ (List.mem_append_left _ (List.mem_append_right _ h))) hown hK hP 0 rfl rfl 105 (by decide) (hts (.fieldLink RX13 356 "KnotHouseModel" "endRow" "[I") (by decide +kernel)) (fun _ h9 => h9) hkaR dX13_makeSimples_104 ?_
                      refine lv_iload hx hb dX13_makeSimples_107 (lv_at hl 7 rfl) ?_
                      refine va_iald hx hb hK hP 10 0 rfl rfl (vp_in_nI (n := t) (N := 5) (by omega) (by decide)) dX13_makeSimples_109 ?_
                      refine ow_topi (y := nI (ow_E n k t)) ((congrArg f32 (nI_clamp (n := t) (by omega))).trans (ef32)) ?_
                      refine lv_iload hx hb dX13_makeSimples_110 (lv_at hl 4 rfl) ?_
                      refine lv_icmp_ne (tgt := 120) hx hb dX13_makeSimples_112 (by decide) (fun _ => ?_) (fun c9 => absurd c9 (fun h9 => q1 (ow_inj8 _ (ow_E8 n k t) _ (by omega) h9)))
                      refine lv_iload hx hb dX13_makeSimples_120 (lv_at hl 5 rfl) ?_
                      refine ow_topi (y := nI (ow_pa n k j (t + 1))) (congrArg nI (ow_pa_f q1).symm) ?_
                      refine lv_istore (lv' := [(5, .int (nI (ow_pa n k j (t + 1)))), (0, .ref h0), (1, .int (nI n)), (2, .int (nI k)), (3, .int (nI (120 * n + k))), (4, .int (nI j)), (6, .int (nI (ow_pa n k (j + 1) t))), (7, .int (nI t))]) hx hb dX13_makeSimples_122 hl (by decide) rfl (fun ls hl => ?_)
                      refine lv_aload_n hx hb dX13_makeSimples_124 rfl (lv_at hl 1 rfl) ?_
                      refine va_get (D := (dC, dI)) (ci := 16) (v := .ref aR) (C := RX13) (T := TX13) (N := 120) hx hb hts (fun _ h => List.mem_cons_of_mem _ (List.mem_append_left _ (List.mem_append_right _ h))) hown hK hP 0 rfl rfl 105 (by decide) (hts (.fieldLink RX13 356 "KnotHouseModel" "endRow" "[I") (by decide +kernel)) (fun _ h9 => h9) hkaR dX13_makeSimples_125 ?_
                      refine lv_iload hx hb dX13_makeSimples_128 (lv_at hl 7 rfl) ?_
                      refine va_iald hx hb hK hP 10 0 rfl rfl (vp_in_nI (n := t) (N := 5) (by omega) (by decide)) dX13_makeSimples_130 ?_
                      refine ow_topi (y := nI (ow_E n k t)) ((congrArg f32 (nI_clamp (n := t) (by omega))).trans (ef32)) ?_
                      refine lv_iload hx hb dX13_makeSimples_131 (lv_at hl 5 rfl) ?_
                      refine lv_iconst (v := 1) hx hb dX13_makeSimples_133 (by decide) ?_
                      refine lv_iadd hx hb dX13_makeSimples_134 ?_
                      refine ow_topi (y := nI (j + 1)) (nI_1 j) ?_
                      refine lv_icmp_ne (tgt := 143) hx hb dX13_makeSimples_135 (by decide) (fun _ => ?_) (fun c9 => absurd c9 (fun h9 => q2 (ow_inj8 _ (ow_E8 n k t) _ (by omega) h9)))
                      refine lv_iload hx hb dX13_makeSimples_143 (lv_at hl 6 rfl) ?_
                      refine ow_topi (y := nI (ow_pa n k (j + 1) (t + 1))) (congrArg nI (ow_pa_f q2).symm) ?_
                      refine lv_istore (lv' := [(6, .int (nI (ow_pa n k (j + 1) (t + 1)))), (5, .int (nI (ow_pa n k j (t + 1)))), (0, .ref h0), (1, .int (nI n)), (2, .int (nI k)), (3, .int (nI (120 * n + k))), (4, .int (nI j)), (7, .int (nI t))]) hx hb dX13_makeSimples_145 hl (by decide) rfl (fun ls hl => ?_)
                      refine lv_iinc (v := nI (t + 1)) (lv' := [(7, .int (nI (t + 1))), (6, .int (nI (ow_pa n k (j + 1) (t + 1)))), (5, .int (nI (ow_pa n k j (t + 1)))), (0, .ref h0), (1, .int (nI n)), (2, .int (nI k)), (3, .int (nI (120 * n + k))), (4, .int (nI j))]) hx hb dX13_makeSimples_147 hl (k := 7) rfl (nI_1 t) (by decide) rfl (fun ls hl => ?_)
                      refine lv_goto (tgt := 79) hx hb dX13_makeSimples_150 (by decide) ?_
                      refine ih_t (t + 1) (by omega) H locs ls _ _ _ _ _ _ _ _ _ _ _ hP hD hS (lv_sub hl [3, 4, 5, 6, 7, 2, 1, 0] rfl) hJ (fun u9 h9 => ?_)
                      rcases Nat.lt_or_ge u9 t with y9 | y9
                      · rw [nf32 u9 (by omega)]
                        exact hRr u9 y9
                      · have e9 : u9 = t := by omega
                        rw [e9, ef32]
              refine lv_iload hx hb dX13_makeSimples_62 (lv_at hl 4 rfl) ?_
              refine lv_iload_n hx hb dX13_makeSimples_64 rfl (lv_at hl 1 rfl) ?_
              refine lv_iconst (v := 1) hx hb dX13_makeSimples_65 (by decide) ?_
              refine lv_isub hx hb dX13_makeSimples_66 ?_
              refine ow_topi (y := nI (n - 1)) (pk_sub (a := n) (b := 1) (by omega)) ?_
              refine lv_icmp_ge (tgt := 368) hx hb dX13_makeSimples_67 (by decide) (fun c9 => absurd c9 (nI_ge (a := j) (b := n - 1) (by omega) (by omega))) (fun _ => ?_)
              refine lv_iconst (v := 0) hx hb dX13_makeSimples_70 (by decide) ?_
              refine ow_topi (y := nI (ow_pa n k j 0)) (rfl) ?_
              refine lv_istore (lv' := [(5, .int (nI (ow_pa n k j 0))), (0, .ref h0), (1, .int (nI n)), (2, .int (nI k)), (3, .int (nI (120 * n + k))), (4, .int (nI j))]) hx hb dX13_makeSimples_71 hl (by decide) rfl (fun ls hl => ?_)
              refine lv_iconst (v := 0) hx hb dX13_makeSimples_73 (by decide) ?_
              refine ow_topi (y := nI (ow_pa n k (j + 1) 0)) (rfl) ?_
              refine lv_istore (lv' := [(6, .int (nI (ow_pa n k (j + 1) 0))), (5, .int (nI (ow_pa n k j 0))), (0, .ref h0), (1, .int (nI n)), (2, .int (nI k)), (3, .int (nI (120 * n + k))), (4, .int (nI j))]) hx hb dX13_makeSimples_74 hl (by decide) rfl (fun ls hl => ?_)
              refine lv_iconst (v := 0) hx hb dX13_makeSimples_76 (by decide) ?_
              refine ow_topi (y := nI 0) (by decide) ?_
              refine lv_istore (lv' := [(7, .int (nI 0)), (6, .int (nI (ow_pa n k (j + 1) 0))), (5, .int (nI (ow_pa n k j 0))), (0, .ref h0), (1, .int (nI n)), (2, .int (nI k)), (3, .int (nI (120 * n + k))), (4, .int (nI j))]) hx hb dX13_makeSimples_77 hl (by decide) rfl (fun ls hl => ?_)
              exact L79 n 0 (by omega) H locs ls _ _ _ _ _ _ _ _ _ _ _ hP hD hS (lv_sub hl [3, 4, 5, 6, 7, 2, 1, 0] rfl) hJ (fun u9 h9 => absurd h9 (Nat.not_lt_zero u9))
          have hkC := (ow_ck1 (j := 0) h2 h5 hkc (by omega)).2.2.1
          have hCc := (ow_ck1 (j := 0) h2 h5 hkc (by omega)).2.2.2.1
          refine lv_iload_n hx hb dX13_makeSimples_42 rfl (lv_at hl 2 rfl) ?_
          refine lv_aload_n hx hb dX13_makeSimples_43 rfl (lv_at hl 0 rfl) ?_
          refine va_get (D := (dC, dI)) (ci := 16) (v := .ref aS) (C := RX13) (T := TX13) (N := 120) hx hb hts (fun _ h => List.mem_cons_of_mem _ (List.mem_append_left _ (List.mem_append_right _ h))) hown hK hP 0 rfl rfl 96 (by decide) (hts (.fieldLink RX13 329 "KnotHouseModel" "simples" "[I") (by decide +kernel)) (fun _ h9 => h9) hkaS dX13_makeSimples_44 ?_
          refine lv_iload_n hx hb dX13_makeSimples_47 rfl (lv_at hl 1 rfl) ?_
          refine va_iald hx hb hK hP 1 0 rfl rfl (vp_in_nI (n := n) (N := 6) (by omega) (by decide)) dX13_makeSimples_48 ?_
          refine ow_topi (y := nI (ow_C n k 0)) ((congrArg fS (nI_clamp (n := n) (by omega))).trans (hJ.1)) ?_
          refine lv_icmp_ge (tgt := 374) hx hb dX13_makeSimples_49 (by decide) (fun c9 => absurd c9 (nI_ge (a := k) (b := ow_C n k 0) hkC (by omega))) (fun _ => ?_)
          refine lv_bipush (v := 120) hx hb dX13_makeSimples_52 (by decide) ?_
          refine lv_iload_n hx hb dX13_makeSimples_54 rfl (lv_at hl 1 rfl) ?_
          refine lv_imul hx hb dX13_makeSimples_55 ?_
          refine ow_topi (y := nI (120 * n)) (pk_mul 120 n) ?_
          refine lv_iload_n hx hb dX13_makeSimples_56 rfl (lv_at hl 2 rfl) ?_
          refine lv_iadd hx hb dX13_makeSimples_57 ?_
          refine ow_topi (y := nI (120 * n + k)) (nI_add (120 * n) k) ?_
          refine lv_istore_n (lv' := [(3, .int (nI (120 * n + k))), (0, .ref h0), (1, .int (nI n)), (2, .int (nI k))]) hx hb dX13_makeSimples_58 rfl hl (by decide) rfl (fun ls hl => ?_)
          refine lv_iconst (v := 0) hx hb dX13_makeSimples_59 (by decide) ?_
          refine ow_topi (y := nI 0) (by decide) ?_
          refine lv_istore (lv' := [(4, .int (nI 0)), (3, .int (nI (120 * n + k))), (0, .ref h0), (1, .int (nI n)), (2, .int (nI k))]) hx hb dX13_makeSimples_60 hl (by decide) rfl (fun ls hl => ?_)
          exact L62 (n - 1) 0 (by omega) H locs ls _ _ _ _ _ _ _ _ _ _ _ hP hD hS (lv_sub hl [2, 3, 4, 1, 0] rfl) hJ
      have L9 : ∀ (d a : Nat), a + d = n → ∀ (H : Heap) (locs : List Loc) (ls : Array Slot) (fS fE fL fZ fM fA fO fP fV fR fG : Nat → Int32), va_P (dC, dI) vwCl [(h0, .inr (16, fs)), (aS, .inl (cI, 6, .inl fS)), (aE, .inl (cI, 3600, .inl fE)), (aL, .inl (cI, 7200, .inl fL)), (aZ, .inl (cI, 720, .inl fZ)), (aM, .inl (cI, 2880, .inl fM)), (aA, .inl (cI, 720, .inl fA)), (aO, .inl (cI, 720, .inl fO)), (aP, .inl (cI, 2880, .inl fP)), (aV, .inl (cI, 2880, .inl fV)), (aR, .inl (cI, 5, .inl fR)), (aG, .inl (cI, 400, .inl fG))] H → va_D A [(h0, .inr (16, fs)), (aS, .inl (cI, 6, .inl fS)), (aE, .inl (cI, 3600, .inl fE)), (aL, .inl (cI, 7200, .inl fL)), (aZ, .inl (cI, 720, .inl fZ)), (aM, .inl (cI, 2880, .inl fM)), (aA, .inl (cI, 720, .inl fA)), (aO, .inl (cI, 720, .inl fO)), (aP, .inl (cI, 2880, .inl fP)), (aV, .inl (cI, 2880, .inl fV)), (aR, .inl (cI, 5, .inl fR)), (aG, .inl (cI, 400, .inl fG))] → va_S A s.heap H locs → lv_has ls 10 [(0, .ref h0), (1, .int (nI n)), (2, .int (nI a))] → (∀ x, n ≤ x → x ≤ 5 → fZ (120 * x) = nI 0) → (∀ i, i < 2880 → ∃ r, r ≤ 120 ∧ fM i = nI r - 1) → (∀ b, b < a → fE (5 * (120 * n + 0) + b) = nI b) → W p l e ({ frames := 3, cells := 0, slots := 0, locals := 120 } : Room) s m ([.ref h0] : List Value).toArray below meth c H locs 0 0 QQ (F0 m 9 ls []) := by
        intro d
        induction d with
        | zero =>
          intro a hv_a H locs ls fS fE fL fZ fM fA fO fP fV fR fG hP hD hS hl hZ0 hM0 hEa
          refine lv_iload_n hx hb dX13_makeSimples_9 rfl (lv_at hl 2 rfl) ?_
          refine lv_iload_n hx hb dX13_makeSimples_10 rfl (lv_at hl 1 rfl) ?_
          refine lv_icmp_ge (tgt := 33) hx hb dX13_makeSimples_11 (by decide) (fun _ => ?_) (fun c9 => absurd (nI_le (a := n) (b := a) (by omega) (by omega)) c9)
          refine lv_aload_n hx hb dX13_makeSimples_33 rfl (lv_at hl 0 rfl) ?_
          refine va_get (D := (dC, dI)) (ci := 16) (v := .ref aS) (C := RX13) (T := TX13) (N := 120) hx hb hts (fun _ h => List.mem_cons_of_mem _ (List.mem_append_left _ (List.mem_append_right _ h))) hown hK hP 0 rfl rfl 96 (by decide) (hts (.fieldLink RX13 329 "KnotHouseModel" "simples" "[I") (by decide +kernel)) (fun _ h9 => h9) hkaS dX13_makeSimples_34 ?_
          refine lv_iload_n hx hb dX13_makeSimples_37 rfl (lv_at hl 1 rfl) ?_
          refine lv_iconst (v := 1) hx hb dX13_makeSimples_38 (by decide) ?_
          refine ow_topi (y := nI 1) (by decide) ?_
          refine ow_iastU (j := n) hx hb hK hP hD hS 1 0 rfl rfl rfl (by omega) (by decide) dX13_makeSimples_39 (fun f42 H locs ef42 nf42 hP hD hS => ?_)
          have hP : va_P (dC, dI) vwCl [(h0, .inr (16, fs)), (aS, .inl (cI, 6, .inl f42)), (aE, .inl (cI, 3600, .inl fE)), (aL, .inl (cI, 7200, .inl fL)), (aZ, .inl (cI, 720, .inl fZ)), (aM, .inl (cI, 2880, .inl fM)), (aA, .inl (cI, 720, .inl fA)), (aO, .inl (cI, 720, .inl fO)), (aP, .inl (cI, 2880, .inl fP)), (aV, .inl (cI, 2880, .inl fV)), (aR, .inl (cI, 5, .inl fR)), (aG, .inl (cI, 400, .inl fG))] H := hP
          have hD : va_D A [(h0, .inr (16, fs)), (aS, .inl (cI, 6, .inl f42)), (aE, .inl (cI, 3600, .inl fE)), (aL, .inl (cI, 7200, .inl fL)), (aZ, .inl (cI, 720, .inl fZ)), (aM, .inl (cI, 2880, .inl fM)), (aA, .inl (cI, 720, .inl fA)), (aO, .inl (cI, 720, .inl fO)), (aP, .inl (cI, 2880, .inl fP)), (aV, .inl (cI, 2880, .inl fV)), (aR, .inl (cI, 5, .inl fR)), (aG, .inl (cI, 400, .inl fG))] := hD
          refine lv_iconst (v := 0) hx hb dX13_makeSimples_40 (by decide) ?_
          refine ow_topi (y := nI 0) (by decide) ?_
          refine lv_istore_n (lv' := [(2, .int (nI 0)), (0, .ref h0), (1, .int (nI n))]) hx hb dX13_makeSimples_41 rfl hl (by decide) rfl (fun ls hl => ?_)
          refine L42 (ow_cn n) 0 (by omega) H locs ls _ _ _ _ _ _ _ _ _ _ _ hP hD hS (lv_sub hl [1, 2, 0] rfl) ?_
          rw [hfr.1]
          refine ⟨ef42, fun i9 h9 b9 y9 => ?_, fun i9 h9 => ?_, fun i9 h9 t9 y9 => ?_, fun x9 h9 y9 => hZ0 x9 (by omega) y9, hM0⟩
          · obtain rfl : i9 = 0 := by omega
            rw [hfr.2.2.2.1 b9 y9]
            exact hEa b9 (by omega)
          · obtain rfl : i9 = 0 := by omega
            rw [hfr.2.2.1]
            exact hZ0 n (Nat.le_refl n) h5
          · obtain rfl : i9 = 0 := by omega
            rw [hfr.2.2.1] at y9
            exact absurd y9 (Nat.not_lt_zero t9)
        | succ d ih_a =>
          intro a hv_a H locs ls fS fE fL fZ fM fA fO fP fV fR fG hP hD hS hl hZ0 hM0 hEa
          refine lv_iload_n hx hb dX13_makeSimples_9 rfl (lv_at hl 2 rfl) ?_
          refine lv_iload_n hx hb dX13_makeSimples_10 rfl (lv_at hl 1 rfl) ?_
          refine lv_icmp_ge (tgt := 33) hx hb dX13_makeSimples_11 (by decide) (fun c9 => absurd c9 (nI_ge (a := a) (b := n) (by omega) (by omega))) (fun _ => ?_)
          refine lv_aload_n hx hb dX13_makeSimples_14 rfl (lv_at hl 0 rfl) ?_
          refine va_get (D := (dC, dI)) (ci := 16) (v := .ref aE) (C := RX13) (T := TX13) (N := 120) hx hb hts (fun _ h => List.mem_cons_of_mem _ (List.mem_append_left _ (List.mem_append_right _ h))) hown hK hP 0 rfl rfl 97 (by decide) (hts (.fieldLink RX13 332 "KnotHouseModel" "ends" "[I") (by decide +kernel)) (fun _ h9 => h9) hkaE dX13_makeSimples_15 ?_
          refine lv_sipush (v := 600) hx hb dX13_makeSimples_18 (by decide) ?_
          refine lv_iload_n hx hb dX13_makeSimples_21 rfl (lv_at hl 1 rfl) ?_
          refine lv_imul hx hb dX13_makeSimples_22 ?_
          refine ow_topi (y := nI (600 * n)) (pk_mul 600 n) ?_
          refine lv_iload_n hx hb dX13_makeSimples_23 rfl (lv_at hl 2 rfl) ?_
          refine lv_iadd hx hb dX13_makeSimples_24 ?_
          refine ow_topi (y := nI (5 * (120 * n + 0) + a)) ((nI_add (600 * n) a).trans (congrArg nI (by omega))) ?_
          refine lv_iload_n hx hb dX13_makeSimples_25 rfl (lv_at hl 2 rfl) ?_
          refine ow_iastU (j := 5 * (120 * n + 0) + a) hx hb hK hP hD hS 2 0 rfl rfl rfl (by omega) (by decide) dX13_makeSimples_26 (fun f43 H locs ef43 nf43 hP hD hS => ?_)
          have hP : va_P (dC, dI) vwCl [(h0, .inr (16, fs)), (aS, .inl (cI, 6, .inl fS)), (aE, .inl (cI, 3600, .inl f43)), (aL, .inl (cI, 7200, .inl fL)), (aZ, .inl (cI, 720, .inl fZ)), (aM, .inl (cI, 2880, .inl fM)), (aA, .inl (cI, 720, .inl fA)), (aO, .inl (cI, 720, .inl fO)), (aP, .inl (cI, 2880, .inl fP)), (aV, .inl (cI, 2880, .inl fV)), (aR, .inl (cI, 5, .inl fR)), (aG, .inl (cI, 400, .inl fG))] H := hP
          have hD : va_D A [(h0, .inr (16, fs)), (aS, .inl (cI, 6, .inl fS)), (aE, .inl (cI, 3600, .inl f43)), (aL, .inl (cI, 7200, .inl fL)), (aZ, .inl (cI, 720, .inl fZ)), (aM, .inl (cI, 2880, .inl fM)), (aA, .inl (cI, 720, .inl fA)), (aO, .inl (cI, 720, .inl fO)), (aP, .inl (cI, 2880, .inl fP)), (aV, .inl (cI, 2880, .inl fV)), (aR, .inl (cI, 5, .inl fR)), (aG, .inl (cI, 400, .inl fG))] := hD
          refine lv_iinc (v := nI (a + 1)) (lv' := [(2, .int (nI (a + 1))), (0, .ref h0), (1, .int (nI n))]) hx hb dX13_makeSimples_27 hl (k := 2) rfl (nI_1 a) (by decide) rfl (fun ls hl => ?_)
          refine lv_goto (tgt := 9) hx hb dX13_makeSimples_30 (by decide) ?_
          refine ih_a (a + 1) (by omega) H locs ls _ _ _ _ _ _ _ _ _ _ _ hP hD hS (lv_sub hl [1, 2, 0] rfl) hZ0 hM0 (fun u9 h9 => ?_)
          rcases Nat.lt_or_ge u9 a with y9 | y9
          · rw [nf43 _ (by omega)]
            exact hEa u9 y9
          · have e9 : u9 = a := by omega
            rw [e9, ef43]
      refine lv_iload_n hx hb dX13_makeSimples_2 rfl (lv_at hl 1 rfl) ?_
      refine lv_iconst (v := 5) hx hb dX13_makeSimples_3 (by decide) ?_
      refine lv_icmp_gt (tgt := 425) hx hb dX13_makeSimples_4 (by decide) (fun c9 => absurd c9 (Int32.not_lt.mpr (nI_le (a := n) (b := 5) h5 (by decide)))) (fun _ => ?_)
      refine lv_iconst (v := 0) hx hb dX13_makeSimples_7 (by decide) ?_
      refine ow_topi (y := nI 0) (by decide) ?_
      refine lv_istore_n (lv' := [(2, .int (nI 0)), (0, .ref h0), (1, .int (nI n))]) hx hb dX13_makeSimples_8 rfl hl (by decide) rfl (fun ls hl => ?_)
      exact L9 n 0 (by omega) H locs ls _ _ _ _ _ _ _ _ _ _ _ hP hD hS (lv_sub hl [1, 2, 0] rfl) hZ0 hM0 (fun u9 h9 => absurd h9 (Nat.not_lt_zero u9))
  refine lv_iconst (v := 2) hx hb dX13_makeSimples_0 (by decide) ?_
  refine ow_topi (y := nI 2) (by decide) ?_
  refine lv_istore_n (lv' := [(1, .int (nI 2)), (0, .ref h0)]) hx hb dX13_makeSimples_1 rfl hl (by decide) rfl (fun ls hl => ?_)
  exact L2 4 2 (by omega) (by omega) s.heap [] ls _ _ _ _ _ _ _ _ _ _ _ hP hD hS (lv_sub hl [1, 0] rfl) hZ0 hM0
