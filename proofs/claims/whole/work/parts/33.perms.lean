/-! codes of permutations: the letter at place a, the test, how many codes below pass -/
def ow_pd (q a : Nat) : Nat := q / 4 ^ a % 4
abbrev ow_p1 (mm q a : Nat) : Prop := (if a < mm then ow_pd q a < mm else ow_pd q a = a) ∧ ∀ b, b < a → ow_pd q b ≠ ow_pd q a
abbrev ow_pt (mm q : Nat) : Prop := ∀ a, a < 4 → ow_p1 mm q a
def ow_pc (mm : Nat) : Nat → Nat
  | 0 => 0
  | q + 1 => if ow_pt mm q then ow_pc mm q + 1 else ow_pc mm q
theorem ow_pc_s (mm q : Nat) : ow_pc mm (q + 1) = if ow_pt mm q then ow_pc mm q + 1 else ow_pc mm q := rfl
theorem ow_pc_le (mm q : Nat) : ow_pc mm q ≤ ow_pc mm (q + 1) := by
  rw [ow_pc_s]
  split
  · exact Nat.le_succ _
  · exact Nat.le_refl _
theorem ow_pc_mono (mm q : Nat) : ∀ d, ow_pc mm q ≤ ow_pc mm (q + d)
  | 0 => Nat.le_refl _
  | d + 1 => Nat.le_trans (ow_pc_mono mm q d) (ow_pc_le mm (q + d))
set_option maxRecDepth 100000 in
theorem ow_pc24 : ∀ mm, mm < 5 → ow_pc mm 256 ≤ 24 := by decide +kernel
theorem ow_pcb {mm q : Nat} (hm : mm < 5) (hq : q ≤ 256) : ow_pc mm q ≤ 24 := by
  have h1 := ow_pc_mono mm q (256 - q)
  rw [show q + (256 - q) = 256 by omega] at h1
  exact Nat.le_trans h1 (ow_pc24 mm hm)
theorem ow_pcl {mm q : Nat} (hm : mm < 5) (hq : q < 256) (h : ow_pt mm q) : ow_pc mm q < 24 ∧ ow_pc mm (q + 1) = ow_pc mm q + 1 := by
  have h1 : ow_pc mm (q + 1) = ow_pc mm q + 1 := by
    rw [ow_pc_s]
    exact if_pos h
  have h2 := ow_pcb hm (show q + 1 ≤ 256 by omega)
  exact ⟨by omega, h1⟩
theorem ow_pd4 (q a : Nat) : ow_pd q a < 4 := Nat.mod_lt _ (by decide)
set_option maxRecDepth 100000 in
theorem ow_pdI : ∀ q, q < 256 → ∀ a, a < 4 → (nI q >>> (nI (2 * a) &&& 31)) &&& 3 = nI (ow_pd q a) := by decide +kernel
/-- images are 0 .. 3 -/
def ow_I4 (f : Nat → Int32) : Prop := ∀ i, i < 480 → ∃ x, x < 4 ∧ f i = nI x
theorem ow_I4.up {f f1 : Nat → Int32} (h : ow_I4 f) {i x : Nat} (hx : x < 4) (h1 : f1 i = nI x) (h2 : ∀ k, k ≠ i → f1 k = f k) : ow_I4 f1 := fun k hk => by
  by_cases q : k = i
  · exact ⟨x, hx, by rw [q]; exact h1⟩
  · obtain ⟨y, hy, e1⟩ := h k hk
    exact ⟨y, hy, (h2 k q).trans e1⟩
theorem dX13_image_0 : decode cX13_image 0 = .ok (.aload_n 0, 1) := by decide +kernel
theorem dX13_image_1 : decode cX13_image 1 = .ok (.getfield 268, 3) := by decide +kernel
theorem dX13_image_4 : decode cX13_image 4 = .ok (.bipush 96, 2) := by decide +kernel
theorem dX13_image_6 : decode cX13_image 6 = .ok (.iload_n 1, 1) := by decide +kernel
theorem dX13_image_7 : decode cX13_image 7 = .ok (.imul, 1) := by decide +kernel
theorem dX13_image_8 : decode cX13_image 8 = .ok (.iconst 4, 1) := by decide +kernel
theorem dX13_image_9 : decode cX13_image 9 = .ok (.iload_n 2, 1) := by decide +kernel
theorem dX13_image_10 : decode cX13_image 10 = .ok (.imul, 1) := by decide +kernel
theorem dX13_image_11 : decode cX13_image 11 = .ok (.iadd, 1) := by decide +kernel
theorem dX13_image_12 : decode cX13_image 12 = .ok (.iload_n 3, 1) := by decide +kernel
theorem dX13_image_13 : decode cX13_image 13 = .ok (.iadd, 1) := by decide +kernel
theorem dX13_image_14 : decode cX13_image 14 = .ok (.iaload, 1) := by decide +kernel
theorem dX13_image_15 : decode cX13_image 15 = .ok (.ireturn, 1) := by decide +kernel
def wf_Mimage : List Cond := .code yX13_image cX13_image 4 (some .int) :: ([.fieldLink RX13 268 "KnotHouseModel" "images" "[I"] ++ wsX130)
set_option maxHeartbeats 4000000 in
set_option maxRecDepth 100000 in
theorem kf_X13_image (l : Launch) (dC : Nat → ClassId) (dI : Nat → Nat → Nat) (cI cB cJ cZ : ClassId) (h0 aI : Nat) (fs : List Value) (hfs : fs.length = 120) (hkaI : fs[73]? = some (.ref aI)) (fI : Nat → Int32) (hI : ow_I4 fI) (mm pp a : Nat) (hmm : mm ≤ 4) (hpp : pp < 24) (ha : a < 4) : Met l yX13_image wf_Mimage (({ frames := 0, cells := 0, slots := 0, locals := 0 } : Room)) (va_Pc [.ref h0, .int (nI mm), .int (nI pp), .int (nI a)] (fun U => va_P (dC, dI) vwCl [(h0, .inr (16, fs)), (aI, .inl (cI, 480, .inl fI))] U.heap ∧ va_K (dC, dI) vwCl [(cI, .int), (cB, .byte), (cJ, .long), (cZ, .boolean)] U)) (va_Qi (fun r (_ : Unit) => ∃ x, x < 4 ∧ r = nI x) (fun _ _ => True) (fun _ => False)) 0 0 (fun _ => False) := by
  refine Met.ofW (cc := cX13_image) (maxL := 4) (ret := (some .int)) (by decide) rfl ?_
  intro p e s m args below meth c s₁ B hml hv
  obtain ⟨rfl, hP, hK⟩ := hv
  have hx := B.exec
  have hb := B.bytes
  have hr := B.returns
  have hts := atoms_spec (ws := wf_Mimage) B.pre
  have hown : s.vm.findClass RX13 = some m.cls := findClass_of_methodNamed B.named
  have hlocks := B.notSynchronized
  have hS : va_S (fun _ => False) s.heap s.heap [] := va_S.rf
  have hP : va_P (dC, dI) vwCl [(h0, .inr (16, fs)), (aI, .inl (cI, 480, .inl fI))] s.heap := hP
  have hl := lv_entry ([.ref h0, .int (nI mm), .int (nI pp), .int (nI a)]) (n := 4) (Nat.le_of_ble_eq_true rfl)
  rw [lg_entry_eq]
  generalize (lg_sl ([.ref h0, .int (nI mm), .int (nI pp), .int (nI a)]) ++ List.replicate (4 - (lg_sl ([.ref h0, .int (nI mm), .int (nI pp), .int (nI a)])).length) Slot.unset).toArray = ls at hl ⊢
  have hl : lv_has ls 4 [(0, .ref h0), (1, .int (nI mm)), (2, .int (nI pp)), (3, .int (nI a))] := hl
  refine ow_named (fun QQ hQQ => ?_)
  obtain ⟨x9, hx9, e9⟩ := hI (96 * mm + 4 * pp + a) (by omega)
  refine lv_aload_n hx hb dX13_image_0 rfl (lv_at hl 0 rfl) ?_
  refine va_get (D := (dC, dI)) (ci := 16) (v := .ref aI) (C := RX13) (T := TX13) (N := 120) hx hb hts (fun _ h => List.mem_cons_of_mem _ (List.mem_append_right _ h)) hown hK hP 0 rfl rfl 73 (by decide) (hts (.fieldLink RX13 268 "KnotHouseModel" "images" "[I") (by decide +kernel)) (fun _ h9 => h9) hkaI dX13_image_1 ?_
  refine lv_bipush (v := 96) hx hb dX13_image_4 (by decide) ?_
  refine lv_iload_n hx hb dX13_image_6 rfl (lv_at hl 1 rfl) ?_
  refine lv_imul hx hb dX13_image_7 ?_
  refine ow_topi (y := nI (96 * mm)) (pk_mul 96 mm) ?_
  refine lv_iconst (v := 4) hx hb dX13_image_8 (by decide) ?_
  refine lv_iload_n hx hb dX13_image_9 rfl (lv_at hl 2 rfl) ?_
  refine lv_imul hx hb dX13_image_10 ?_
  refine ow_topi (y := nI (4 * pp)) (pk_mul 4 pp) ?_
  refine lv_iadd hx hb dX13_image_11 ?_
  refine ow_topi (y := nI (96 * mm + 4 * pp)) (nI_add (96 * mm) (4 * pp)) ?_
  refine lv_iload_n hx hb dX13_image_12 rfl (lv_at hl 3 rfl) ?_
  refine lv_iadd hx hb dX13_image_13 ?_
  refine ow_topi (y := nI (96 * mm + 4 * pp + a)) (nI_add (96 * mm + 4 * pp) a) ?_
  refine va_iald hx hb hK hP 1 0 rfl rfl (vp_in_nI (n := 96 * mm + 4 * pp + a) (N := 480) (by omega) (by decide)) dX13_image_14 ?_
  refine ow_topi (y := nI x9) ((congrArg fI (nI_clamp (n := 96 * mm + 4 * pp + a) (by omega))).trans (e9)) ?_
  rw [hQQ]
  exact W.iret (v := nI x9) hx hb hr (fun t ht hW => ⟨⟨nI x9, (), rfl, ⟨x9, hx9, rfl⟩, trivial⟩, hS.F ht⟩) hS.2.2 dX13_image_15
theorem dX13_makePermutations_0 : decode cX13_makePermutations 0 = .ok (.iconst 1, 1) := by decide +kernel
theorem dX13_makePermutations_1 : decode cX13_makePermutations 1 = .ok (.istore_n 1, 1) := by decide +kernel
theorem dX13_makePermutations_2 : decode cX13_makePermutations 2 = .ok (.iload_n 1, 1) := by decide +kernel
theorem dX13_makePermutations_3 : decode cX13_makePermutations 3 = .ok (.iconst 4, 1) := by decide +kernel
theorem dX13_makePermutations_4 : decode cX13_makePermutations 4 = .ok (.if_icmp .gt 377, 3) := by decide +kernel
theorem dX13_makePermutations_7 : decode cX13_makePermutations 7 = .ok (.iconst 0, 1) := by decide +kernel
theorem dX13_makePermutations_8 : decode cX13_makePermutations 8 = .ok (.istore_n 2, 1) := by decide +kernel
theorem dX13_makePermutations_9 : decode cX13_makePermutations 9 = .ok (.iconst 0, 1) := by decide +kernel
theorem dX13_makePermutations_10 : decode cX13_makePermutations 10 = .ok (.istore_n 3, 1) := by decide +kernel
theorem dX13_makePermutations_11 : decode cX13_makePermutations 11 = .ok (.iload_n 3, 1) := by decide +kernel
theorem dX13_makePermutations_12 : decode cX13_makePermutations 12 = .ok (.sipush 256, 3) := by decide +kernel
theorem dX13_makePermutations_15 : decode cX13_makePermutations 15 = .ok (.if_icmp .ge 160, 3) := by decide +kernel
theorem dX13_makePermutations_18 : decode cX13_makePermutations 18 = .ok (.iconst 1, 1) := by decide +kernel
theorem dX13_makePermutations_19 : decode cX13_makePermutations 19 = .ok (.istore 4, 2) := by decide +kernel
theorem dX13_makePermutations_21 : decode cX13_makePermutations 21 = .ok (.iconst 0, 1) := by decide +kernel
theorem dX13_makePermutations_22 : decode cX13_makePermutations 22 = .ok (.istore 5, 2) := by decide +kernel
theorem dX13_makePermutations_24 : decode cX13_makePermutations 24 = .ok (.iload 5, 2) := by decide +kernel
theorem dX13_makePermutations_26 : decode cX13_makePermutations 26 = .ok (.iconst 4, 1) := by decide +kernel
theorem dX13_makePermutations_27 : decode cX13_makePermutations 27 = .ok (.if_icmp .ge 95, 3) := by decide +kernel
theorem dX13_makePermutations_30 : decode cX13_makePermutations 30 = .ok (.iload_n 3, 1) := by decide +kernel
theorem dX13_makePermutations_31 : decode cX13_makePermutations 31 = .ok (.iconst 2, 1) := by decide +kernel
theorem dX13_makePermutations_32 : decode cX13_makePermutations 32 = .ok (.iload 5, 2) := by decide +kernel
theorem dX13_makePermutations_34 : decode cX13_makePermutations 34 = .ok (.imul, 1) := by decide +kernel
theorem dX13_makePermutations_35 : decode cX13_makePermutations 35 = .ok (.ishr, 1) := by decide +kernel
theorem dX13_makePermutations_36 : decode cX13_makePermutations 36 = .ok (.iconst 3, 1) := by decide +kernel
theorem dX13_makePermutations_37 : decode cX13_makePermutations 37 = .ok (.iand, 1) := by decide +kernel
theorem dX13_makePermutations_38 : decode cX13_makePermutations 38 = .ok (.istore 6, 2) := by decide +kernel
theorem dX13_makePermutations_40 : decode cX13_makePermutations 40 = .ok (.iload 4, 2) := by decide +kernel
theorem dX13_makePermutations_42 : decode cX13_makePermutations 42 = .ok (.iload 5, 2) := by decide +kernel
theorem dX13_makePermutations_44 : decode cX13_makePermutations 44 = .ok (.iload_n 1, 1) := by decide +kernel
theorem dX13_makePermutations_45 : decode cX13_makePermutations 45 = .ok (.if_icmp .ge 17, 3) := by decide +kernel
theorem dX13_makePermutations_48 : decode cX13_makePermutations 48 = .ok (.iload 6, 2) := by decide +kernel
theorem dX13_makePermutations_50 : decode cX13_makePermutations 50 = .ok (.iload_n 1, 1) := by decide +kernel
theorem dX13_makePermutations_51 : decode cX13_makePermutations 51 = .ok (.if_icmp .ge 7, 3) := by decide +kernel
theorem dX13_makePermutations_54 : decode cX13_makePermutations 54 = .ok (.iconst 1, 1) := by decide +kernel
theorem dX13_makePermutations_55 : decode cX13_makePermutations 55 = .ok (.goto 19, 3) := by decide +kernel
theorem dX13_makePermutations_58 : decode cX13_makePermutations 58 = .ok (.iconst 0, 1) := by decide +kernel
theorem dX13_makePermutations_59 : decode cX13_makePermutations 59 = .ok (.goto 15, 3) := by decide +kernel
theorem dX13_makePermutations_62 : decode cX13_makePermutations 62 = .ok (.iload 6, 2) := by decide +kernel
theorem dX13_makePermutations_64 : decode cX13_makePermutations 64 = .ok (.iload 5, 2) := by decide +kernel
theorem dX13_makePermutations_66 : decode cX13_makePermutations 66 = .ok (.if_icmp .ne 7, 3) := by decide +kernel
theorem dX13_makePermutations_69 : decode cX13_makePermutations 69 = .ok (.iconst 1, 1) := by decide +kernel
theorem dX13_makePermutations_70 : decode cX13_makePermutations 70 = .ok (.goto 4, 3) := by decide +kernel
theorem dX13_makePermutations_73 : decode cX13_makePermutations 73 = .ok (.iconst 0, 1) := by decide +kernel
theorem dX13_makePermutations_74 : decode cX13_makePermutations 74 = .ok (.iand, 1) := by decide +kernel
theorem dX13_makePermutations_75 : decode cX13_makePermutations 75 = .ok (.istore 4, 2) := by decide +kernel
theorem dX13_makePermutations_77 : decode cX13_makePermutations 77 = .ok (.iconst 0, 1) := by decide +kernel
theorem dX13_makePermutations_78 : decode cX13_makePermutations 78 = .ok (.istore 7, 2) := by decide +kernel
theorem dX13_makePermutations_80 : decode cX13_makePermutations 80 = .ok (.iload 7, 2) := by decide +kernel
theorem dX13_makePermutations_82 : decode cX13_makePermutations 82 = .ok (.iload 5, 2) := by decide +kernel
theorem dX13_makePermutations_84 : decode cX13_makePermutations 84 = .ok (.if_icmp .ge 32, 3) := by decide +kernel
theorem dX13_makePermutations_87 : decode cX13_makePermutations 87 = .ok (.iload 4, 2) := by decide +kernel
theorem dX13_makePermutations_89 : decode cX13_makePermutations 89 = .ok (.iload_n 3, 1) := by decide +kernel
theorem dX13_makePermutations_90 : decode cX13_makePermutations 90 = .ok (.iconst 2, 1) := by decide +kernel
theorem dX13_makePermutations_91 : decode cX13_makePermutations 91 = .ok (.iload 7, 2) := by decide +kernel
theorem dX13_makePermutations_93 : decode cX13_makePermutations 93 = .ok (.imul, 1) := by decide +kernel
theorem dX13_makePermutations_94 : decode cX13_makePermutations 94 = .ok (.ishr, 1) := by decide +kernel
theorem dX13_makePermutations_95 : decode cX13_makePermutations 95 = .ok (.iconst 3, 1) := by decide +kernel
theorem dX13_makePermutations_96 : decode cX13_makePermutations 96 = .ok (.iand, 1) := by decide +kernel
theorem dX13_makePermutations_97 : decode cX13_makePermutations 97 = .ok (.iload 6, 2) := by decide +kernel
theorem dX13_makePermutations_99 : decode cX13_makePermutations 99 = .ok (.if_icmp .eq 7, 3) := by decide +kernel
theorem dX13_makePermutations_102 : decode cX13_makePermutations 102 = .ok (.iconst 1, 1) := by decide +kernel
theorem dX13_makePermutations_103 : decode cX13_makePermutations 103 = .ok (.goto 4, 3) := by decide +kernel
theorem dX13_makePermutations_106 : decode cX13_makePermutations 106 = .ok (.iconst 0, 1) := by decide +kernel
theorem dX13_makePermutations_107 : decode cX13_makePermutations 107 = .ok (.iand, 1) := by decide +kernel
theorem dX13_makePermutations_108 : decode cX13_makePermutations 108 = .ok (.istore 4, 2) := by decide +kernel
theorem dX13_makePermutations_110 : decode cX13_makePermutations 110 = .ok (.iinc 7 1, 3) := by decide +kernel
theorem dX13_makePermutations_113 : decode cX13_makePermutations 113 = .ok (.goto (-33), 3) := by decide +kernel
theorem dX13_makePermutations_116 : decode cX13_makePermutations 116 = .ok (.iinc 5 1, 3) := by decide +kernel
theorem dX13_makePermutations_119 : decode cX13_makePermutations 119 = .ok (.goto (-95), 3) := by decide +kernel
theorem dX13_makePermutations_122 : decode cX13_makePermutations 122 = .ok (.iload 4, 2) := by decide +kernel
theorem dX13_makePermutations_124 : decode cX13_makePermutations 124 = .ok (.ifCond .eq 45, 3) := by decide +kernel
theorem dX13_makePermutations_127 : decode cX13_makePermutations 127 = .ok (.iconst 0, 1) := by decide +kernel
theorem dX13_makePermutations_128 : decode cX13_makePermutations 128 = .ok (.istore 5, 2) := by decide +kernel
theorem dX13_makePermutations_130 : decode cX13_makePermutations 130 = .ok (.iload 5, 2) := by decide +kernel
theorem dX13_makePermutations_132 : decode cX13_makePermutations 132 = .ok (.iconst 4, 1) := by decide +kernel
theorem dX13_makePermutations_133 : decode cX13_makePermutations 133 = .ok (.if_icmp .ge 33, 3) := by decide +kernel
theorem dX13_makePermutations_136 : decode cX13_makePermutations 136 = .ok (.aload_n 0, 1) := by decide +kernel
theorem dX13_makePermutations_137 : decode cX13_makePermutations 137 = .ok (.getfield 268, 3) := by decide +kernel
theorem dX13_makePermutations_140 : decode cX13_makePermutations 140 = .ok (.bipush 96, 2) := by decide +kernel
theorem dX13_makePermutations_142 : decode cX13_makePermutations 142 = .ok (.iload_n 1, 1) := by decide +kernel
theorem dX13_makePermutations_143 : decode cX13_makePermutations 143 = .ok (.imul, 1) := by decide +kernel
theorem dX13_makePermutations_144 : decode cX13_makePermutations 144 = .ok (.iconst 4, 1) := by decide +kernel
theorem dX13_makePermutations_145 : decode cX13_makePermutations 145 = .ok (.iload_n 2, 1) := by decide +kernel
theorem dX13_makePermutations_146 : decode cX13_makePermutations 146 = .ok (.imul, 1) := by decide +kernel
theorem dX13_makePermutations_147 : decode cX13_makePermutations 147 = .ok (.iadd, 1) := by decide +kernel
theorem dX13_makePermutations_148 : decode cX13_makePermutations 148 = .ok (.iload 5, 2) := by decide +kernel
theorem dX13_makePermutations_150 : decode cX13_makePermutations 150 = .ok (.iadd, 1) := by decide +kernel
theorem dX13_makePermutations_151 : decode cX13_makePermutations 151 = .ok (.iload_n 3, 1) := by decide +kernel
theorem dX13_makePermutations_152 : decode cX13_makePermutations 152 = .ok (.iconst 2, 1) := by decide +kernel
theorem dX13_makePermutations_153 : decode cX13_makePermutations 153 = .ok (.iload 5, 2) := by decide +kernel
theorem dX13_makePermutations_155 : decode cX13_makePermutations 155 = .ok (.imul, 1) := by decide +kernel
theorem dX13_makePermutations_156 : decode cX13_makePermutations 156 = .ok (.ishr, 1) := by decide +kernel
theorem dX13_makePermutations_157 : decode cX13_makePermutations 157 = .ok (.iconst 3, 1) := by decide +kernel
theorem dX13_makePermutations_158 : decode cX13_makePermutations 158 = .ok (.iand, 1) := by decide +kernel
theorem dX13_makePermutations_159 : decode cX13_makePermutations 159 = .ok (.iastore, 1) := by decide +kernel
theorem dX13_makePermutations_160 : decode cX13_makePermutations 160 = .ok (.iinc 5 1, 3) := by decide +kernel
theorem dX13_makePermutations_163 : decode cX13_makePermutations 163 = .ok (.goto (-33), 3) := by decide +kernel
theorem dX13_makePermutations_166 : decode cX13_makePermutations 166 = .ok (.iinc 2 1, 3) := by decide +kernel
theorem dX13_makePermutations_169 : decode cX13_makePermutations 169 = .ok (.iinc 3 1, 3) := by decide +kernel
theorem dX13_makePermutations_172 : decode cX13_makePermutations 172 = .ok (.goto (-161), 3) := by decide +kernel
theorem dX13_makePermutations_175 : decode cX13_makePermutations 175 = .ok (.iconst 0, 1) := by decide +kernel
theorem dX13_makePermutations_176 : decode cX13_makePermutations 176 = .ok (.istore_n 3, 1) := by decide +kernel
theorem dX13_makePermutations_177 : decode cX13_makePermutations 177 = .ok (.iload_n 3, 1) := by decide +kernel
theorem dX13_makePermutations_178 : decode cX13_makePermutations 178 = .ok (.iload_n 2, 1) := by decide +kernel
theorem dX13_makePermutations_179 : decode cX13_makePermutations 179 = .ok (.if_icmp .ge 196, 3) := by decide +kernel
theorem dX13_makePermutations_182 : decode cX13_makePermutations 182 = .ok (.iconst 0, 1) := by decide +kernel
theorem dX13_makePermutations_183 : decode cX13_makePermutations 183 = .ok (.istore 4, 2) := by decide +kernel
theorem dX13_makePermutations_185 : decode cX13_makePermutations 185 = .ok (.iload 4, 2) := by decide +kernel
theorem dX13_makePermutations_187 : decode cX13_makePermutations 187 = .ok (.iload_n 2, 1) := by decide +kernel
theorem dX13_makePermutations_188 : decode cX13_makePermutations 188 = .ok (.if_icmp .ge 181, 3) := by decide +kernel
theorem dX13_makePermutations_191 : decode cX13_makePermutations 191 = .ok (.iconst 0, 1) := by decide +kernel
theorem dX13_makePermutations_192 : decode cX13_makePermutations 192 = .ok (.istore 5, 2) := by decide +kernel
theorem dX13_makePermutations_194 : decode cX13_makePermutations 194 = .ok (.iload 5, 2) := by decide +kernel
theorem dX13_makePermutations_196 : decode cX13_makePermutations 196 = .ok (.iload_n 2, 1) := by decide +kernel
theorem dX13_makePermutations_197 : decode cX13_makePermutations 197 = .ok (.if_icmp .ge 166, 3) := by decide +kernel
theorem dX13_makePermutations_200 : decode cX13_makePermutations 200 = .ok (.iconst 1, 1) := by decide +kernel
theorem dX13_makePermutations_201 : decode cX13_makePermutations 201 = .ok (.istore 6, 2) := by decide +kernel
theorem dX13_makePermutations_203 : decode cX13_makePermutations 203 = .ok (.iconst 1, 1) := by decide +kernel
theorem dX13_makePermutations_204 : decode cX13_makePermutations 204 = .ok (.istore 7, 2) := by decide +kernel
theorem dX13_makePermutations_206 : decode cX13_makePermutations 206 = .ok (.iconst 0, 1) := by decide +kernel
theorem dX13_makePermutations_207 : decode cX13_makePermutations 207 = .ok (.istore 8, 2) := by decide +kernel
theorem dX13_makePermutations_209 : decode cX13_makePermutations 209 = .ok (.iload 8, 2) := by decide +kernel
theorem dX13_makePermutations_211 : decode cX13_makePermutations 211 = .ok (.iload_n 1, 1) := by decide +kernel
theorem dX13_makePermutations_212 : decode cX13_makePermutations 212 = .ok (.if_icmp .ge 95, 3) := by decide +kernel
theorem dX13_makePermutations_215 : decode cX13_makePermutations 215 = .ok (.iload 6, 2) := by decide +kernel
theorem dX13_makePermutations_217 : decode cX13_makePermutations 217 = .ok (.aload_n 0, 1) := by decide +kernel
theorem dX13_makePermutations_218 : decode cX13_makePermutations 218 = .ok (.iload_n 1, 1) := by decide +kernel
theorem dX13_makePermutations_219 : decode cX13_makePermutations 219 = .ok (.iload 5, 2) := by decide +kernel
theorem dX13_makePermutations_221 : decode cX13_makePermutations 221 = .ok (.aload_n 0, 1) := by decide +kernel
theorem dX13_makePermutations_222 : decode cX13_makePermutations 222 = .ok (.iload_n 1, 1) := by decide +kernel
theorem dX13_makePermutations_223 : decode cX13_makePermutations 223 = .ok (.iload_n 3, 1) := by decide +kernel
theorem dX13_makePermutations_224 : decode cX13_makePermutations 224 = .ok (.iload 8, 2) := by decide +kernel
theorem dX13_makePermutations_226 : decode cX13_makePermutations 226 = .ok (.invokevirtual 671, 3) := by decide +kernel
theorem dX13_makePermutations_229 : decode cX13_makePermutations 229 = .ok (.invokevirtual 671, 3) := by decide +kernel
theorem dX13_makePermutations_232 : decode cX13_makePermutations 232 = .ok (.aload_n 0, 1) := by decide +kernel
theorem dX13_makePermutations_233 : decode cX13_makePermutations 233 = .ok (.iload_n 1, 1) := by decide +kernel
theorem dX13_makePermutations_234 : decode cX13_makePermutations 234 = .ok (.iload_n 3, 1) := by decide +kernel
theorem dX13_makePermutations_235 : decode cX13_makePermutations 235 = .ok (.aload_n 0, 1) := by decide +kernel
theorem dX13_makePermutations_236 : decode cX13_makePermutations 236 = .ok (.iload_n 1, 1) := by decide +kernel
theorem dX13_makePermutations_237 : decode cX13_makePermutations 237 = .ok (.iload 4, 2) := by decide +kernel
theorem dX13_makePermutations_239 : decode cX13_makePermutations 239 = .ok (.iload 8, 2) := by decide +kernel
theorem dX13_makePermutations_241 : decode cX13_makePermutations 241 = .ok (.invokevirtual 671, 3) := by decide +kernel
theorem dX13_makePermutations_244 : decode cX13_makePermutations 244 = .ok (.invokevirtual 671, 3) := by decide +kernel
theorem dX13_makePermutations_247 : decode cX13_makePermutations 247 = .ok (.if_icmp .ne 7, 3) := by decide +kernel
theorem dX13_makePermutations_250 : decode cX13_makePermutations 250 = .ok (.iconst 1, 1) := by decide +kernel
theorem dX13_makePermutations_251 : decode cX13_makePermutations 251 = .ok (.goto 4, 3) := by decide +kernel
theorem dX13_makePermutations_254 : decode cX13_makePermutations 254 = .ok (.iconst 0, 1) := by decide +kernel
theorem dX13_makePermutations_255 : decode cX13_makePermutations 255 = .ok (.iand, 1) := by decide +kernel
theorem dX13_makePermutations_256 : decode cX13_makePermutations 256 = .ok (.istore 6, 2) := by decide +kernel
theorem dX13_makePermutations_258 : decode cX13_makePermutations 258 = .ok (.iload 7, 2) := by decide +kernel
theorem dX13_makePermutations_260 : decode cX13_makePermutations 260 = .ok (.aload_n 0, 1) := by decide +kernel
theorem dX13_makePermutations_261 : decode cX13_makePermutations 261 = .ok (.iload_n 1, 1) := by decide +kernel
theorem dX13_makePermutations_262 : decode cX13_makePermutations 262 = .ok (.iload_n 3, 1) := by decide +kernel
theorem dX13_makePermutations_263 : decode cX13_makePermutations 263 = .ok (.aload_n 0, 1) := by decide +kernel
theorem dX13_makePermutations_264 : decode cX13_makePermutations 264 = .ok (.iload_n 1, 1) := by decide +kernel
theorem dX13_makePermutations_265 : decode cX13_makePermutations 265 = .ok (.iload 5, 2) := by decide +kernel
theorem dX13_makePermutations_267 : decode cX13_makePermutations 267 = .ok (.iload 8, 2) := by decide +kernel
theorem dX13_makePermutations_269 : decode cX13_makePermutations 269 = .ok (.invokevirtual 671, 3) := by decide +kernel
theorem dX13_makePermutations_272 : decode cX13_makePermutations 272 = .ok (.invokevirtual 671, 3) := by decide +kernel
theorem dX13_makePermutations_275 : decode cX13_makePermutations 275 = .ok (.aload_n 0, 1) := by decide +kernel
theorem dX13_makePermutations_276 : decode cX13_makePermutations 276 = .ok (.iload_n 1, 1) := by decide +kernel
theorem dX13_makePermutations_277 : decode cX13_makePermutations 277 = .ok (.iload 4, 2) := by decide +kernel
theorem dX13_makePermutations_279 : decode cX13_makePermutations 279 = .ok (.aload_n 0, 1) := by decide +kernel
theorem dX13_makePermutations_280 : decode cX13_makePermutations 280 = .ok (.iload_n 1, 1) := by decide +kernel
theorem dX13_makePermutations_281 : decode cX13_makePermutations 281 = .ok (.iload_n 3, 1) := by decide +kernel
theorem dX13_makePermutations_282 : decode cX13_makePermutations 282 = .ok (.iload 8, 2) := by decide +kernel
theorem dX13_makePermutations_284 : decode cX13_makePermutations 284 = .ok (.invokevirtual 671, 3) := by decide +kernel
theorem dX13_makePermutations_287 : decode cX13_makePermutations 287 = .ok (.invokevirtual 671, 3) := by decide +kernel
theorem dX13_makePermutations_290 : decode cX13_makePermutations 290 = .ok (.if_icmp .ne 7, 3) := by decide +kernel
theorem dX13_makePermutations_293 : decode cX13_makePermutations 293 = .ok (.iconst 1, 1) := by decide +kernel
theorem dX13_makePermutations_294 : decode cX13_makePermutations 294 = .ok (.goto 4, 3) := by decide +kernel
theorem dX13_makePermutations_297 : decode cX13_makePermutations 297 = .ok (.iconst 0, 1) := by decide +kernel
theorem dX13_makePermutations_298 : decode cX13_makePermutations 298 = .ok (.iand, 1) := by decide +kernel
theorem dX13_makePermutations_299 : decode cX13_makePermutations 299 = .ok (.istore 7, 2) := by decide +kernel
theorem dX13_makePermutations_301 : decode cX13_makePermutations 301 = .ok (.iinc 8 1, 3) := by decide +kernel
theorem dX13_makePermutations_304 : decode cX13_makePermutations 304 = .ok (.goto (-95), 3) := by decide +kernel
theorem dX13_makePermutations_307 : decode cX13_makePermutations 307 = .ok (.iload 6, 2) := by decide +kernel
theorem dX13_makePermutations_309 : decode cX13_makePermutations 309 = .ok (.ifCond .eq 23, 3) := by decide +kernel
theorem dX13_makePermutations_312 : decode cX13_makePermutations 312 = .ok (.aload_n 0, 1) := by decide +kernel
theorem dX13_makePermutations_313 : decode cX13_makePermutations 313 = .ok (.getfield 271, 3) := by decide +kernel
theorem dX13_makePermutations_316 : decode cX13_makePermutations 316 = .ok (.sipush 576, 3) := by decide +kernel
theorem dX13_makePermutations_319 : decode cX13_makePermutations 319 = .ok (.iload_n 1, 1) := by decide +kernel
theorem dX13_makePermutations_320 : decode cX13_makePermutations 320 = .ok (.imul, 1) := by decide +kernel
theorem dX13_makePermutations_321 : decode cX13_makePermutations 321 = .ok (.bipush 24, 2) := by decide +kernel
theorem dX13_makePermutations_323 : decode cX13_makePermutations 323 = .ok (.iload_n 3, 1) := by decide +kernel
theorem dX13_makePermutations_324 : decode cX13_makePermutations 324 = .ok (.imul, 1) := by decide +kernel
theorem dX13_makePermutations_325 : decode cX13_makePermutations 325 = .ok (.iadd, 1) := by decide +kernel
theorem dX13_makePermutations_326 : decode cX13_makePermutations 326 = .ok (.iload 4, 2) := by decide +kernel
theorem dX13_makePermutations_328 : decode cX13_makePermutations 328 = .ok (.iadd, 1) := by decide +kernel
theorem dX13_makePermutations_329 : decode cX13_makePermutations 329 = .ok (.iload 5, 2) := by decide +kernel
theorem dX13_makePermutations_331 : decode cX13_makePermutations 331 = .ok (.iastore, 1) := by decide +kernel
theorem dX13_makePermutations_332 : decode cX13_makePermutations 332 = .ok (.iload 7, 2) := by decide +kernel
theorem dX13_makePermutations_334 : decode cX13_makePermutations 334 = .ok (.ifCond .eq 23, 3) := by decide +kernel
theorem dX13_makePermutations_337 : decode cX13_makePermutations 337 = .ok (.aload_n 0, 1) := by decide +kernel
theorem dX13_makePermutations_338 : decode cX13_makePermutations 338 = .ok (.getfield 274, 3) := by decide +kernel
theorem dX13_makePermutations_341 : decode cX13_makePermutations 341 = .ok (.sipush 576, 3) := by decide +kernel
theorem dX13_makePermutations_344 : decode cX13_makePermutations 344 = .ok (.iload_n 1, 1) := by decide +kernel
theorem dX13_makePermutations_345 : decode cX13_makePermutations 345 = .ok (.imul, 1) := by decide +kernel
theorem dX13_makePermutations_346 : decode cX13_makePermutations 346 = .ok (.bipush 24, 2) := by decide +kernel
theorem dX13_makePermutations_348 : decode cX13_makePermutations 348 = .ok (.iload_n 3, 1) := by decide +kernel
theorem dX13_makePermutations_349 : decode cX13_makePermutations 349 = .ok (.imul, 1) := by decide +kernel
theorem dX13_makePermutations_350 : decode cX13_makePermutations 350 = .ok (.iadd, 1) := by decide +kernel
theorem dX13_makePermutations_351 : decode cX13_makePermutations 351 = .ok (.iload 4, 2) := by decide +kernel
theorem dX13_makePermutations_353 : decode cX13_makePermutations 353 = .ok (.iadd, 1) := by decide +kernel
theorem dX13_makePermutations_354 : decode cX13_makePermutations 354 = .ok (.iload 5, 2) := by decide +kernel
theorem dX13_makePermutations_356 : decode cX13_makePermutations 356 = .ok (.iastore, 1) := by decide +kernel
theorem dX13_makePermutations_357 : decode cX13_makePermutations 357 = .ok (.iinc 5 1, 3) := by decide +kernel
theorem dX13_makePermutations_360 : decode cX13_makePermutations 360 = .ok (.goto (-166), 3) := by decide +kernel
theorem dX13_makePermutations_363 : decode cX13_makePermutations 363 = .ok (.iinc 4 1, 3) := by decide +kernel
theorem dX13_makePermutations_366 : decode cX13_makePermutations 366 = .ok (.goto (-181), 3) := by decide +kernel
theorem dX13_makePermutations_369 : decode cX13_makePermutations 369 = .ok (.iinc 3 1, 3) := by decide +kernel
theorem dX13_makePermutations_372 : decode cX13_makePermutations 372 = .ok (.goto (-195), 3) := by decide +kernel
theorem dX13_makePermutations_375 : decode cX13_makePermutations 375 = .ok (.iinc 1 1, 3) := by decide +kernel
theorem dX13_makePermutations_378 : decode cX13_makePermutations 378 = .ok (.goto (-376), 3) := by decide +kernel
theorem dX13_makePermutations_381 : decode cX13_makePermutations 381 = .ok (.return_, 1) := by decide +kernel
def wf_MmakePermutations : List Cond := .code yX13_makePermutations cX13_makePermutations 9 none :: ([.fieldLink RX13 268 "KnotHouseModel" "images" "[I", .fieldLink RX13 271 "KnotHouseModel" "down" "[I", .fieldLink RX13 274 "KnotHouseModel" "back" "[I"] ++ wsX130 ++ wsV RX13 671 RX13 yX13_image wf_Mimage)
theorem gf_X13_makePermutations_a : GoodIn wf_MmakePermutations (wsV RX13 671 RX13 yX13_image wf_Mimage) := goodIn_sub (fun _ h => List.mem_cons_of_mem _ (List.mem_append_right _ h)) (by decide +kernel)
set_option maxHeartbeats 4000000 in
set_option maxRecDepth 100000 in
theorem kf_X13_makePermutations (l : Launch) (dC : Nat → ClassId) (dI : Nat → Nat → Nat) (cI cB cJ cZ : ClassId) (h0 aI aN aB : Nat) (fs : List Value) (hfs : fs.length = 120) (hkaI : fs[73]? = some (.ref aI)) (hkaN : fs[74]? = some (.ref aN)) (hkaB : fs[75]? = some (.ref aB)) (fI fN fB : Nat → Int32) (hI : ow_I4 fI) (sz : Nat) : Met l yX13_makePermutations wf_MmakePermutations (({ frames := 2, cells := 0, slots := 0, locals := 80 } : Room)) (va_Pc [.ref h0] (fun U => U.heap.size = sz ∧ va_P (dC, dI) vwCl [(h0, .inr (16, fs)), (aI, .inl (cI, 480, .inl fI)), (aN, .inl (cI, 2880, .inl fN)), (aB, .inl (cI, 2880, .inl fB))] U.heap ∧ va_K (dC, dI) vwCl [(cI, .int), (cB, .byte), (cJ, .long), (cZ, .boolean)] U ∧ va_D (fun _ => True) [(h0, .inr (16, fs)), (aI, .inl (cI, 480, .inl fI)), (aN, .inl (cI, 2880, .inl fN)), (aB, .inl (cI, 2880, .inl fB))])) (va_Qv (fun g : (Nat → Int32) × (Nat → Int32) × (Nat → Int32) => True) (fun g t => va_P (dC, dI) vwCl [(h0, .inr (16, fs)), (aI, .inl (cI, 480, .inl g.1)), (aN, .inl (cI, 2880, .inl g.2.1)), (aB, .inl (cI, 2880, .inl g.2.2))] t.heap ∧ va_D (va_A [(h0, .inr (16, fs)), (aI, .inl (cI, 480, .inl fI)), (aN, .inl (cI, 2880, .inl fN)), (aB, .inl (cI, 2880, .inl fB))] sz) [(h0, .inr (16, fs)), (aI, .inl (cI, 480, .inl g.1)), (aN, .inl (cI, 2880, .inl g.2.1)), (aB, .inl (cI, 2880, .inl g.2.2))]) (va_A [(h0, .inr (16, fs)), (aI, .inl (cI, 480, .inl fI)), (aN, .inl (cI, 2880, .inl fN)), (aB, .inl (cI, 2880, .inl fB))] sz)) 0 0 (va_A [(h0, .inr (16, fs)), (aI, .inl (cI, 480, .inl fI)), (aN, .inl (cI, 2880, .inl fN)), (aB, .inl (cI, 2880, .inl fB))] sz) := by
  refine Met.ofW (cc := cX13_makePermutations) (maxL := 9) (ret := none) (by decide) rfl ?_
  intro p e s m args below meth c s₁ B hml hv
  obtain ⟨rfl, hsz, hP, hK, hD0⟩ := hv
  have hx := B.exec
  have hb := B.bytes
  have hr := B.returns
  have hts := atoms_spec (ws := wf_MmakePermutations) B.pre
  have hown : s.vm.findClass RX13 = some m.cls := findClass_of_methodNamed B.named
  have hlocks := B.notSynchronized
  subst hsz
  have hD := hD0.self (sz := s.heap.size)
  generalize hAe : va_A [(h0, .inr (16, fs)), (aI, .inl (cI, 480, .inl fI)), (aN, .inl (cI, 2880, .inl fN)), (aB, .inl (cI, 2880, .inl fB))] s.heap.size = A at hD ⊢
  have hA : ∀ q : Nat, s.heap.size ≤ q → A q := fun q h => by rw [← hAe]; exact Or.inr h
  have hS : va_S A s.heap s.heap [] := va_S.rf
  have hP : va_P (dC, dI) vwCl [(h0, .inr (16, fs)), (aI, .inl (cI, 480, .inl fI)), (aN, .inl (cI, 2880, .inl fN)), (aB, .inl (cI, 2880, .inl fB))] s.heap := hP
  have hl := lv_entry ([.ref h0]) (n := 9) (Nat.le_of_ble_eq_true rfl)
  rw [lg_entry_eq]
  generalize (lg_sl ([.ref h0]) ++ List.replicate (9 - (lg_sl ([.ref h0])).length) Slot.unset).toArray = ls at hl ⊢
  have hl : lv_has ls 9 [(0, .ref h0)] := hl
  refine ow_named (fun QQ hQQ => ?_)
  have L2 : ∀ (d mm : Nat), mm + d = 5 → 1 ≤ mm → ∀ (H : Heap) (locs : List Loc) (ls : Array Slot) (fI fN fB : Nat → Int32), va_P (dC, dI) vwCl [(h0, .inr (16, fs)), (aI, .inl (cI, 480, .inl fI)), (aN, .inl (cI, 2880, .inl fN)), (aB, .inl (cI, 2880, .inl fB))] H → va_D A [(h0, .inr (16, fs)), (aI, .inl (cI, 480, .inl fI)), (aN, .inl (cI, 2880, .inl fN)), (aB, .inl (cI, 2880, .inl fB))] → va_S A s.heap H locs → lv_has ls 9 [(0, .ref h0), (1, .int (nI mm))] → ow_I4 fI → W p l e ({ frames := 2, cells := 0, slots := 0, locals := 80 } : Room) s m ([.ref h0] : List Value).toArray below meth c H locs 0 0 QQ (F0 m 2 ls []) := by
    intro d
    induction d with
    | zero =>
      intro mm hv_mm hm1 H locs ls fI fN fB hP hD hS hl hI
      obtain rfl : mm = 5 := by omega
      refine lv_iload_n hx hb dX13_makePermutations_2 rfl (lv_at hl 1 rfl) ?_
      refine lv_iconst (v := 4) hx hb dX13_makePermutations_3 (by decide) ?_
      refine lv_icmp_gt (tgt := 381) hx hb dX13_makePermutations_4 (by decide) (fun _ => ?_) (fun c9 => absurd (by decide) c9)
      rw [hQQ]
      exact W.vret hx hb hr (fun t ht hW => ⟨⟨(fI, fN, fB), rfl, trivial, by rw [ht]; exact hP, hD⟩, hS.F ht⟩) hS.2.2 dX13_makePermutations_381
    | succ d ih_mm =>
      intro mm hv_mm hm1 H locs ls fI fN fB hP hD hS hl hI
      have hm4 : mm ≤ 4 := by omega
      have L177 : ∀ (ct d oo : Nat), ct ≤ 24 → oo + d = ct → ∀ (H : Heap) (locs : List Loc) (ls : Array Slot) (fI fN fB : Nat → Int32), va_P (dC, dI) vwCl [(h0, .inr (16, fs)), (aI, .inl (cI, 480, .inl fI)), (aN, .inl (cI, 2880, .inl fN)), (aB, .inl (cI, 2880, .inl fB))] H → va_D A [(h0, .inr (16, fs)), (aI, .inl (cI, 480, .inl fI)), (aN, .inl (cI, 2880, .inl fN)), (aB, .inl (cI, 2880, .inl fB))] → va_S A s.heap H locs → lv_has ls 9 [(0, .ref h0), (1, .int (nI mm)), (2, .int (nI ct)), (3, .int (nI oo))] → ow_I4 fI → W p l e ({ frames := 2, cells := 0, slots := 0, locals := 80 } : Room) s m ([.ref h0] : List Value).toArray below meth c H locs 0 0 QQ (F0 m 177 ls []) := by
        intro ct d
        induction d with
        | zero =>
          intro oo hct hv_oo H locs ls fI fN fB hP hD hS hl hI
          refine lv_iload_n hx hb dX13_makePermutations_177 rfl (lv_at hl 3 rfl) ?_
          refine lv_iload_n hx hb dX13_makePermutations_178 rfl (lv_at hl 2 rfl) ?_
          refine lv_icmp_ge (tgt := 375) hx hb dX13_makePermutations_179 (by decide) (fun _ => ?_) (fun c9 => absurd (nI_le (a := ct) (b := oo) (by omega) (by omega)) c9)
          refine lv_iinc (v := nI (mm + 1)) (lv' := [(1, .int (nI (mm + 1))), (0, .ref h0), (2, .int (nI ct)), (3, .int (nI oo))]) hx hb dX13_makePermutations_375 hl (k := 1) rfl (nI_1 mm) (by decide) rfl (fun ls hl => ?_)
          refine lv_goto (tgt := 2) hx hb dX13_makePermutations_378 (by decide) ?_
          exact ih_mm (mm + 1) (by omega) (by omega) H locs ls _ _ _ hP hD hS (lv_sub hl [1, 0] rfl) hI
        | succ d ih_oo =>
          intro oo hct hv_oo H locs ls fI fN fB hP hD hS hl hI
          have L185 : ∀ (d xx : Nat), xx + d = ct → ∀ (H : Heap) (locs : List Loc) (ls : Array Slot) (fI fN fB : Nat → Int32), va_P (dC, dI) vwCl [(h0, .inr (16, fs)), (aI, .inl (cI, 480, .inl fI)), (aN, .inl (cI, 2880, .inl fN)), (aB, .inl (cI, 2880, .inl fB))] H → va_D A [(h0, .inr (16, fs)), (aI, .inl (cI, 480, .inl fI)), (aN, .inl (cI, 2880, .inl fN)), (aB, .inl (cI, 2880, .inl fB))] → va_S A s.heap H locs → lv_has ls 9 [(0, .ref h0), (1, .int (nI mm)), (2, .int (nI ct)), (3, .int (nI oo)), (4, .int (nI xx))] → ow_I4 fI → W p l e ({ frames := 2, cells := 0, slots := 0, locals := 80 } : Room) s m ([.ref h0] : List Value).toArray below meth c H locs 0 0 QQ (F0 m 185 ls []) := by
            intro d
            induction d with
            | zero =>
              intro xx hv_xx H locs ls fI fN fB hP hD hS hl hI
              refine lv_iload hx hb dX13_makePermutations_185 (lv_at hl 4 rfl) ?_
              refine lv_iload_n hx hb dX13_makePermutations_187 rfl (lv_at hl 2 rfl) ?_
              refine lv_icmp_ge (tgt := 369) hx hb dX13_makePermutations_188 (by decide) (fun _ => ?_) (fun c9 => absurd (nI_le (a := ct) (b := xx) (by omega) (by omega)) c9)
              refine lv_iinc (v := nI (oo + 1)) (lv' := [(3, .int (nI (oo + 1))), (0, .ref h0), (1, .int (nI mm)), (2, .int (nI ct)), (4, .int (nI xx))]) hx hb dX13_makePermutations_369 hl (k := 3) rfl (nI_1 oo) (by decide) rfl (fun ls hl => ?_)
              refine lv_goto (tgt := 177) hx hb dX13_makePermutations_372 (by decide) ?_
              exact ih_oo (oo + 1) hct (by omega) H locs ls _ _ _ hP hD hS (lv_sub hl [1, 2, 3, 0] rfl) hI
            | succ d ih_xx =>
              intro xx hv_xx H locs ls fI fN fB hP hD hS hl hI
              have L194 : ∀ (d yy : Nat), yy + d = ct → ∀ (H : Heap) (locs : List Loc) (ls : Array Slot) (fI fN fB : Nat → Int32), va_P (dC, dI) vwCl [(h0, .inr (16, fs)), (aI, .inl (cI, 480, .inl fI)), (aN, .inl (cI, 2880, .inl fN)), (aB, .inl (cI, 2880, .inl fB))] H → va_D A [(h0, .inr (16, fs)), (aI, .inl (cI, 480, .inl fI)), (aN, .inl (cI, 2880, .inl fN)), (aB, .inl (cI, 2880, .inl fB))] → va_S A s.heap H locs → lv_has ls 9 [(0, .ref h0), (1, .int (nI mm)), (2, .int (nI ct)), (3, .int (nI oo)), (4, .int (nI xx)), (5, .int (nI yy))] → ow_I4 fI → W p l e ({ frames := 2, cells := 0, slots := 0, locals := 80 } : Room) s m ([.ref h0] : List Value).toArray below meth c H locs 0 0 QQ (F0 m 194 ls []) := by
                intro d
                induction d with
                | zero =>
                  intro yy hv_yy H locs ls fI fN fB hP hD hS hl hI
                  refine lv_iload hx hb dX13_makePermutations_194 (lv_at hl 5 rfl) ?_
                  refine lv_iload_n hx hb dX13_makePermutations_196 rfl (lv_at hl 2 rfl) ?_
                  refine lv_icmp_ge (tgt := 363) hx hb dX13_makePermutations_197 (by decide) (fun _ => ?_) (fun c9 => absurd (nI_le (a := ct) (b := yy) (by omega) (by omega)) c9)
                  refine lv_iinc (v := nI (xx + 1)) (lv' := [(4, .int (nI (xx + 1))), (0, .ref h0), (1, .int (nI mm)), (2, .int (nI ct)), (3, .int (nI oo)), (5, .int (nI yy))]) hx hb dX13_makePermutations_363 hl (k := 4) rfl (nI_1 xx) (by decide) rfl (fun ls hl => ?_)
                  refine lv_goto (tgt := 185) hx hb dX13_makePermutations_366 (by decide) ?_
                  exact ih_xx (xx + 1) (by omega) H locs ls _ _ _ hP hD hS (lv_sub hl [1, 2, 3, 4, 0] rfl) hI
                | succ d ih_yy =>
                  intro yy hv_yy H locs ls fI fN fB hP hD hS hl hI
                  have L209 : ∀ (d a : Nat), a + d = mm → ∀ (H : Heap) (locs : List Loc) (ls : Array Slot) (fI fN fB : Nat → Int32) (x6 x7 : Int32), va_P (dC, dI) vwCl [(h0, .inr (16, fs)), (aI, .inl (cI, 480, .inl fI)), (aN, .inl (cI, 2880, .inl fN)), (aB, .inl (cI, 2880, .inl fB))] H → va_D A [(h0, .inr (16, fs)), (aI, .inl (cI, 480, .inl fI)), (aN, .inl (cI, 2880, .inl fN)), (aB, .inl (cI, 2880, .inl fB))] → va_S A s.heap H locs → lv_has ls 9 [(0, .ref h0), (1, .int (nI mm)), (2, .int (nI ct)), (3, .int (nI oo)), (4, .int (nI xx)), (5, .int (nI yy)), (6, .int x6), (7, .int x7), (8, .int (nI a))] → ow_I4 fI → W p l e ({ frames := 2, cells := 0, slots := 0, locals := 80 } : Room) s m ([.ref h0] : List Value).toArray below meth c H locs 0 0 QQ (F0 m 209 ls []) := by
                    intro d
                    induction d with
                    | zero =>
                      intro a hv_a H locs ls fI fN fB x6 x7 hP hD hS hl hI
                      refine lv_iload hx hb dX13_makePermutations_209 (lv_at hl 8 rfl) ?_
                      refine lv_iload_n hx hb dX13_makePermutations_211 rfl (lv_at hl 1 rfl) ?_
                      refine lv_icmp_ge (tgt := 307) hx hb dX13_makePermutations_212 (by decide) (fun _ => ?_) (fun c9 => absurd (nI_le (a := mm) (b := a) (by omega) (by omega)) c9)
                      refine lv_iload hx hb dX13_makePermutations_307 (lv_at hl 6 rfl) ?_
                      refine lv_if_eq (tgt := 332) hx hb dX13_makePermutations_309 (by decide) (fun c1 => ?_) (fun c1 => ?_)
                      · refine lv_iload hx hb dX13_makePermutations_332 (lv_at hl 7 rfl) ?_
                        refine lv_if_eq (tgt := 357) hx hb dX13_makePermutations_334 (by decide) (fun c2 => ?_) (fun c2 => ?_)
                        · refine lv_iinc (v := nI (yy + 1)) (lv' := [(5, .int (nI (yy + 1))), (0, .ref h0), (1, .int (nI mm)), (2, .int (nI ct)), (3, .int (nI oo)), (4, .int (nI xx)), (6, .int x6), (7, .int x7), (8, .int (nI a))]) hx hb dX13_makePermutations_357 hl (k := 5) rfl (nI_1 yy) (by decide) rfl (fun ls hl => ?_)
                          refine lv_goto (tgt := 194) hx hb dX13_makePermutations_360 (by decide) ?_
                          exact ih_yy (yy + 1) (by omega) H locs ls _ _ _ hP hD hS (lv_sub hl [1, 2, 3, 4, 5, 0] rfl) hI
                        · refine lv_aload_n hx hb dX13_makePermutations_337 rfl (lv_at hl 0 rfl) ?_
                          refine va_get (D := (dC, dI)) (ci := 16) (v := .ref aB) (C := RX13) (T := TX13) (N := 120) hx hb hts (fun _ h => List.mem_cons_of_mem _ (List.mem_append_left _ (List.mem_append_right _ h))) hown hK hP 0 rfl rfl 75 (by decide) (hts (.fieldLink RX13 274 "KnotHouseModel" "back" "[I") (by decide +kernel)) (fun _ h9 => h9) hkaB dX13_makePermutations_338 ?_
                          refine lv_sipush (v := 576) hx hb dX13_makePermutations_341 (by decide) ?_
                          refine lv_iload_n hx hb dX13_makePermutations_344 rfl (lv_at hl 1 rfl) ?_
                          refine lv_imul hx hb dX13_makePermutations_345 ?_
                          refine ow_topi (y := nI (576 * mm)) (pk_mul 576 mm) ?_
                          refine lv_bipush (v := 24) hx hb dX13_makePermutations_346 (by decide) ?_
                          refine lv_iload_n hx hb dX13_makePermutations_348 rfl (lv_at hl 3 rfl) ?_
                          refine lv_imul hx hb dX13_makePermutations_349 ?_
                          refine ow_topi (y := nI (24 * oo)) (pk_mul 24 oo) ?_
                          refine lv_iadd hx hb dX13_makePermutations_350 ?_
                          refine ow_topi (y := nI (576 * mm + 24 * oo)) (nI_add (576 * mm) (24 * oo)) ?_
                          refine lv_iload hx hb dX13_makePermutations_351 (lv_at hl 4 rfl) ?_
                          refine lv_iadd hx hb dX13_makePermutations_353 ?_
                          refine ow_topi (y := nI (576 * mm + 24 * oo + xx)) (nI_add (576 * mm + 24 * oo) xx) ?_
                          refine lv_iload hx hb dX13_makePermutations_354 (lv_at hl 5 rfl) ?_
                          refine ow_iast hx hb hK hP hD hS 3 0 rfl rfl (vp_in_nI (n := 576 * mm + 24 * oo + xx) (N := 2880) (by omega) (by decide)) dX13_makePermutations_356 (fun f3 H locs hP hD hS => ?_)
                          have hP : va_P (dC, dI) vwCl [(h0, .inr (16, fs)), (aI, .inl (cI, 480, .inl fI)), (aN, .inl (cI, 2880, .inl fN)), (aB, .inl (cI, 2880, .inl f3))] H := hP
                          have hD : va_D A [(h0, .inr (16, fs)), (aI, .inl (cI, 480, .inl fI)), (aN, .inl (cI, 2880, .inl fN)), (aB, .inl (cI, 2880, .inl f3))] := hD
                          refine lv_iinc (v := nI (yy + 1)) (lv' := [(5, .int (nI (yy + 1))), (0, .ref h0), (1, .int (nI mm)), (2, .int (nI ct)), (3, .int (nI oo)), (4, .int (nI xx)), (6, .int x6), (7, .int x7), (8, .int (nI a))]) hx hb dX13_makePermutations_357 hl (k := 5) rfl (nI_1 yy) (by decide) rfl (fun ls hl => ?_)
                          refine lv_goto (tgt := 194) hx hb dX13_makePermutations_360 (by decide) ?_
                          exact ih_yy (yy + 1) (by omega) H locs ls _ _ _ hP hD hS (lv_sub hl [1, 2, 3, 4, 5, 0] rfl) hI
                      · refine lv_aload_n hx hb dX13_makePermutations_312 rfl (lv_at hl 0 rfl) ?_
                        refine va_get (D := (dC, dI)) (ci := 16) (v := .ref aN) (C := RX13) (T := TX13) (N := 120) hx hb hts (fun _ h => List.mem_cons_of_mem _ (List.mem_append_left _ (List.mem_append_right _ h))) hown hK hP 0 rfl rfl 74 (by decide) (hts (.fieldLink RX13 271 "KnotHouseModel" "down" "[I") (by decide +kernel)) (fun _ h9 => h9) hkaN dX13_makePermutations_313 ?_
                        refine lv_sipush (v := 576) hx hb dX13_makePermutations_316 (by decide) ?_
                        refine lv_iload_n hx hb dX13_makePermutations_319 rfl (lv_at hl 1 rfl) ?_
                        refine lv_imul hx hb dX13_makePermutations_320 ?_
                        refine ow_topi (y := nI (576 * mm)) (pk_mul 576 mm) ?_
                        refine lv_bipush (v := 24) hx hb dX13_makePermutations_321 (by decide) ?_
                        refine lv_iload_n hx hb dX13_makePermutations_323 rfl (lv_at hl 3 rfl) ?_
                        refine lv_imul hx hb dX13_makePermutations_324 ?_
                        refine ow_topi (y := nI (24 * oo)) (pk_mul 24 oo) ?_
                        refine lv_iadd hx hb dX13_makePermutations_325 ?_
                        refine ow_topi (y := nI (576 * mm + 24 * oo)) (nI_add (576 * mm) (24 * oo)) ?_
                        refine lv_iload hx hb dX13_makePermutations_326 (lv_at hl 4 rfl) ?_
                        refine lv_iadd hx hb dX13_makePermutations_328 ?_
                        refine ow_topi (y := nI (576 * mm + 24 * oo + xx)) (nI_add (576 * mm + 24 * oo) xx) ?_
                        refine lv_iload hx hb dX13_makePermutations_329 (lv_at hl 5 rfl) ?_
                        refine ow_iast hx hb hK hP hD hS 2 0 rfl rfl (vp_in_nI (n := 576 * mm + 24 * oo + xx) (N := 2880) (by omega) (by decide)) dX13_makePermutations_331 (fun f4 H locs hP hD hS => ?_)
                        have hP : va_P (dC, dI) vwCl [(h0, .inr (16, fs)), (aI, .inl (cI, 480, .inl fI)), (aN, .inl (cI, 2880, .inl f4)), (aB, .inl (cI, 2880, .inl fB))] H := hP
                        have hD : va_D A [(h0, .inr (16, fs)), (aI, .inl (cI, 480, .inl fI)), (aN, .inl (cI, 2880, .inl f4)), (aB, .inl (cI, 2880, .inl fB))] := hD
                        refine lv_iload hx hb dX13_makePermutations_332 (lv_at hl 7 rfl) ?_
                        refine lv_if_eq (tgt := 357) hx hb dX13_makePermutations_334 (by decide) (fun c5 => ?_) (fun c5 => ?_)
                        · refine lv_iinc (v := nI (yy + 1)) (lv' := [(5, .int (nI (yy + 1))), (0, .ref h0), (1, .int (nI mm)), (2, .int (nI ct)), (3, .int (nI oo)), (4, .int (nI xx)), (6, .int x6), (7, .int x7), (8, .int (nI a))]) hx hb dX13_makePermutations_357 hl (k := 5) rfl (nI_1 yy) (by decide) rfl (fun ls hl => ?_)
                          refine lv_goto (tgt := 194) hx hb dX13_makePermutations_360 (by decide) ?_
                          exact ih_yy (yy + 1) (by omega) H locs ls _ _ _ hP hD hS (lv_sub hl [1, 2, 3, 4, 5, 0] rfl) hI
                        · refine lv_aload_n hx hb dX13_makePermutations_337 rfl (lv_at hl 0 rfl) ?_
                          refine va_get (D := (dC, dI)) (ci := 16) (v := .ref aB) (C := RX13) (T := TX13) (N := 120) hx hb hts (fun _ h => List.mem_cons_of_mem _ (List.mem_append_left _ (List.mem_append_right _ h))) hown hK hP 0 rfl rfl 75 (by decide) (hts (.fieldLink RX13 274 "KnotHouseModel" "back" "[I") (by decide +kernel)) (fun _ h9 => h9) hkaB dX13_makePermutations_338 ?_
                          refine lv_sipush (v := 576) hx hb dX13_makePermutations_341 (by decide) ?_
                          refine lv_iload_n hx hb dX13_makePermutations_344 rfl (lv_at hl 1 rfl) ?_
                          refine lv_imul hx hb dX13_makePermutations_345 ?_
                          refine ow_topi (y := nI (576 * mm)) (pk_mul 576 mm) ?_
                          refine lv_bipush (v := 24) hx hb dX13_makePermutations_346 (by decide) ?_
                          refine lv_iload_n hx hb dX13_makePermutations_348 rfl (lv_at hl 3 rfl) ?_
                          refine lv_imul hx hb dX13_makePermutations_349 ?_
                          refine ow_topi (y := nI (24 * oo)) (pk_mul 24 oo) ?_
                          refine lv_iadd hx hb dX13_makePermutations_350 ?_
                          refine ow_topi (y := nI (576 * mm + 24 * oo)) (nI_add (576 * mm) (24 * oo)) ?_
                          refine lv_iload hx hb dX13_makePermutations_351 (lv_at hl 4 rfl) ?_
                          refine lv_iadd hx hb dX13_makePermutations_353 ?_
                          refine ow_topi (y := nI (576 * mm + 24 * oo + xx)) (nI_add (576 * mm + 24 * oo) xx) ?_
                          refine lv_iload hx hb dX13_makePermutations_354 (lv_at hl 5 rfl) ?_
                          refine ow_iast hx hb hK hP hD hS 3 0 rfl rfl (vp_in_nI (n := 576 * mm + 24 * oo + xx) (N := 2880) (by omega) (by decide)) dX13_makePermutations_356 (fun f6 H locs hP hD hS => ?_)
                          have hP : va_P (dC, dI) vwCl [(h0, .inr (16, fs)), (aI, .inl (cI, 480, .inl fI)), (aN, .inl (cI, 2880, .inl f4)), (aB, .inl (cI, 2880, .inl f6))] H := hP
                          have hD : va_D A [(h0, .inr (16, fs)), (aI, .inl (cI, 480, .inl fI)), (aN, .inl (cI, 2880, .inl f4)), (aB, .inl (cI, 2880, .inl f6))] := hD
                          refine lv_iinc (v := nI (yy + 1)) (lv' := [(5, .int (nI (yy + 1))), (0, .ref h0), (1, .int (nI mm)), (2, .int (nI ct)), (3, .int (nI oo)), (4, .int (nI xx)), (6, .int x6), (7, .int x7), (8, .int (nI a))]) hx hb dX13_makePermutations_357 hl (k := 5) rfl (nI_1 yy) (by decide) rfl (fun ls hl => ?_)
                          refine lv_goto (tgt := 194) hx hb dX13_makePermutations_360 (by decide) ?_
                          exact ih_yy (yy + 1) (by omega) H locs ls _ _ _ hP hD hS (lv_sub hl [1, 2, 3, 4, 5, 0] rfl) hI
                    | succ d ih_a =>
                      intro a hv_a H locs ls fI fN fB x6 x7 hP hD hS hl hI
                      have L258 : ∀ (H : Heap) (locs : List Loc) (ls : Array Slot) (fI fN fB : Nat → Int32) (x6 x7 : Int32), va_P (dC, dI) vwCl [(h0, .inr (16, fs)), (aI, .inl (cI, 480, .inl fI)), (aN, .inl (cI, 2880, .inl fN)), (aB, .inl (cI, 2880, .inl fB))] H → va_D A [(h0, .inr (16, fs)), (aI, .inl (cI, 480, .inl fI)), (aN, .inl (cI, 2880, .inl fN)), (aB, .inl (cI, 2880, .inl fB))] → va_S A s.heap H locs → lv_has ls 9 [(0, .ref h0), (1, .int (nI mm)), (2, .int (nI ct)), (3, .int (nI oo)), (4, .int (nI xx)), (5, .int (nI yy)), (6, .int x6), (7, .int x7), (8, .int (nI a))] → ow_I4 fI → W p l e ({ frames := 2, cells := 0, slots := 0, locals := 80 } : Room) s m ([.ref h0] : List Value).toArray below meth c H locs 0 0 QQ (F0 m 258 ls []) := by
                        intro H locs ls fI fN fB x6 x7 hP hD hS hl hI
                        refine lv_iload hx hb dX13_makePermutations_258 (lv_at hl 7 rfl) ?_
                        refine lv_aload_n hx hb dX13_makePermutations_260 rfl (lv_at hl 0 rfl) ?_
                        refine lv_iload_n hx hb dX13_makePermutations_261 rfl (lv_at hl 1 rfl) ?_
                        refine lv_iload_n hx hb dX13_makePermutations_262 rfl (lv_at hl 3 rfl) ?_
                        refine lv_aload_n hx hb dX13_makePermutations_263 rfl (lv_at hl 0 rfl) ?_
                        refine lv_iload_n hx hb dX13_makePermutations_264 rfl (lv_at hl 1 rfl) ?_
                        refine lv_iload hx hb dX13_makePermutations_265 (lv_at hl 5 rfl) ?_
                        refine lv_iload hx hb dX13_makePermutations_267 (lv_at hl 8 rfl) ?_
                        have hPc := hP.sub (ws' := [(h0, .inr (16, fs)), (aI, .inl (cI, 480, .inl fI))]) [0, 1] rfl
                        refine va_calli (va_runV (As := [.int (nI mm), .int (nI yy), .int (nI a)]) (rest := [.int (nI oo), .int (nI mm), .ref h0, .int x7]) ⟨hx, hb, hml, hown, hts⟩ (kf_X13_image l dC dI cI cB cJ cZ h0 aI fs hfs hkaI fI hI mm yy a (by omega) (by omega) (by omega)) (cwV 3 hts gf_X13_makePermutations_a rfl rfl rfl (by decide +kernel) ⟨(Nat.le_of_ble_eq_true rfl), (Nat.le_of_ble_eq_true rfl)⟩) ⟨fun a U g mk q => by obtain ⟨q0, qP, qK⟩ := q; exact ⟨q0, qP, va_K.moved (u := U) (U := U.calling g mk a) (Vm.Alike.refl U.vm) qK⟩, va_recv hK hPc (ci := 16) (q0 := 0) rfl rfl, fun U hU hW => ⟨rfl, by rw [hU]; exact hPc, va_K.moved hW.alike hK⟩⟩ rfl rfl hl.1 rfl (lv_room (Nat.le_of_ble_eq_true rfl)) dX13_makePermutations_269 ⟨(Nat.le_of_ble_eq_true rfl), (Nat.le_of_ble_eq_true rfl)⟩) hS (fun q _ h => h.elim) (fun q h => h.elim) (fun xi7 un t H1 locs ht hvm hwxi7 hB hz1 hk1 hS => ?_)
                        have hP := hP.kept (fun k9 x9 h9 => hk1 x9.1 ((hP k9 x9 h9).lt) id)
                        generalize H1 = H at hP hS ⊢
                        obtain ⟨yxi7, hyxi7, exi7⟩ := hwxi7
                        subst exi7
                        have hPc := hP.sub (ws' := [(h0, .inr (16, fs)), (aI, .inl (cI, 480, .inl fI))]) [0, 1] rfl
                        refine va_calli (va_runV (As := [.int (nI mm), .int (nI oo), .int (nI yxi7)]) (rest := [.int x7]) ⟨hx, hb, hml, hown, hts⟩ (kf_X13_image l dC dI cI cB cJ cZ h0 aI fs hfs hkaI fI hI mm oo yxi7 (by omega) (by omega) (by omega)) (cwV 3 hts gf_X13_makePermutations_a rfl rfl rfl (by decide +kernel) ⟨(Nat.le_of_ble_eq_true rfl), (Nat.le_of_ble_eq_true rfl)⟩) ⟨fun a U g mk q => by obtain ⟨q0, qP, qK⟩ := q; exact ⟨q0, qP, va_K.moved (u := U) (U := U.calling g mk a) (Vm.Alike.refl U.vm) qK⟩, va_recv hK hPc (ci := 16) (q0 := 0) rfl rfl, fun U hU hW => ⟨rfl, by rw [hU]; exact hPc, va_K.moved hW.alike hK⟩⟩ rfl rfl hl.1 rfl (lv_room (Nat.le_of_ble_eq_true rfl)) dX13_makePermutations_272 ⟨(Nat.le_of_ble_eq_true rfl), (Nat.le_of_ble_eq_true rfl)⟩) hS (fun q _ h => h.elim) (fun q h => h.elim) (fun xi8 un t H1 locs ht hvm hwxi8 hB hz1 hk1 hS => ?_)
                        have hP := hP.kept (fun k9 x9 h9 => hk1 x9.1 ((hP k9 x9 h9).lt) id)
                        generalize H1 = H at hP hS ⊢
                        obtain ⟨yxi8, hyxi8, exi8⟩ := hwxi8
                        subst exi8
                        refine lv_aload_n hx hb dX13_makePermutations_275 rfl (lv_at hl 0 rfl) ?_
                        refine lv_iload_n hx hb dX13_makePermutations_276 rfl (lv_at hl 1 rfl) ?_
                        refine lv_iload hx hb dX13_makePermutations_277 (lv_at hl 4 rfl) ?_
                        refine lv_aload_n hx hb dX13_makePermutations_279 rfl (lv_at hl 0 rfl) ?_
                        refine lv_iload_n hx hb dX13_makePermutations_280 rfl (lv_at hl 1 rfl) ?_
                        refine lv_iload_n hx hb dX13_makePermutations_281 rfl (lv_at hl 3 rfl) ?_
                        refine lv_iload hx hb dX13_makePermutations_282 (lv_at hl 8 rfl) ?_
                        have hPc := hP.sub (ws' := [(h0, .inr (16, fs)), (aI, .inl (cI, 480, .inl fI))]) [0, 1] rfl
                        refine va_calli (va_runV (As := [.int (nI mm), .int (nI oo), .int (nI a)]) (rest := [.int (nI xx), .int (nI mm), .ref h0, .int (nI yxi8), .int x7]) ⟨hx, hb, hml, hown, hts⟩ (kf_X13_image l dC dI cI cB cJ cZ h0 aI fs hfs hkaI fI hI mm oo a (by omega) (by omega) (by omega)) (cwV 3 hts gf_X13_makePermutations_a rfl rfl rfl (by decide +kernel) ⟨(Nat.le_of_ble_eq_true rfl), (Nat.le_of_ble_eq_true rfl)⟩) ⟨fun a U g mk q => by obtain ⟨q0, qP, qK⟩ := q; exact ⟨q0, qP, va_K.moved (u := U) (U := U.calling g mk a) (Vm.Alike.refl U.vm) qK⟩, va_recv hK hPc (ci := 16) (q0 := 0) rfl rfl, fun U hU hW => ⟨rfl, by rw [hU]; exact hPc, va_K.moved hW.alike hK⟩⟩ rfl rfl hl.1 rfl (lv_room (Nat.le_of_ble_eq_true rfl)) dX13_makePermutations_284 ⟨(Nat.le_of_ble_eq_true rfl), (Nat.le_of_ble_eq_true rfl)⟩) hS (fun q _ h => h.elim) (fun q h => h.elim) (fun xi9 un t H1 locs ht hvm hwxi9 hB hz1 hk1 hS => ?_)
                        have hP := hP.kept (fun k9 x9 h9 => hk1 x9.1 ((hP k9 x9 h9).lt) id)
                        generalize H1 = H at hP hS ⊢
                        obtain ⟨yxi9, hyxi9, exi9⟩ := hwxi9
                        subst exi9
                        have hPc := hP.sub (ws' := [(h0, .inr (16, fs)), (aI, .inl (cI, 480, .inl fI))]) [0, 1] rfl
                        refine va_calli (va_runV (As := [.int (nI mm), .int (nI xx), .int (nI yxi9)]) (rest := [.int (nI yxi8), .int x7]) ⟨hx, hb, hml, hown, hts⟩ (kf_X13_image l dC dI cI cB cJ cZ h0 aI fs hfs hkaI fI hI mm xx yxi9 (by omega) (by omega) (by omega)) (cwV 3 hts gf_X13_makePermutations_a rfl rfl rfl (by decide +kernel) ⟨(Nat.le_of_ble_eq_true rfl), (Nat.le_of_ble_eq_true rfl)⟩) ⟨fun a U g mk q => by obtain ⟨q0, qP, qK⟩ := q; exact ⟨q0, qP, va_K.moved (u := U) (U := U.calling g mk a) (Vm.Alike.refl U.vm) qK⟩, va_recv hK hPc (ci := 16) (q0 := 0) rfl rfl, fun U hU hW => ⟨rfl, by rw [hU]; exact hPc, va_K.moved hW.alike hK⟩⟩ rfl rfl hl.1 rfl (lv_room (Nat.le_of_ble_eq_true rfl)) dX13_makePermutations_287 ⟨(Nat.le_of_ble_eq_true rfl), (Nat.le_of_ble_eq_true rfl)⟩) hS (fun q _ h => h.elim) (fun q h => h.elim) (fun xi10 un t H1 locs ht hvm hwxi10 hB hz1 hk1 hS => ?_)
                        have hP := hP.kept (fun k9 x9 h9 => hk1 x9.1 ((hP k9 x9 h9).lt) id)
                        generalize H1 = H at hP hS ⊢
                        obtain ⟨yxi10, hyxi10, exi10⟩ := hwxi10
                        subst exi10
                        refine lv_icmp_ne (tgt := 297) hx hb dX13_makePermutations_290 (by decide) (fun c11 => ?_) (fun c11 => ?_)
                        · refine lv_iconst (v := 0) hx hb dX13_makePermutations_297 (by decide) ?_
                          refine lv_iand hx hb dX13_makePermutations_298 ?_
                          refine lv_topi (fun x12 _ => ?_)
                          refine lv_istore (lv' := [(7, .int x12), (0, .ref h0), (1, .int (nI mm)), (2, .int (nI ct)), (3, .int (nI oo)), (4, .int (nI xx)), (5, .int (nI yy)), (6, .int x6), (8, .int (nI a))]) hx hb dX13_makePermutations_299 hl (by decide) rfl (fun ls hl => ?_)
                          refine lv_iinc (v := nI (a + 1)) (lv' := [(8, .int (nI (a + 1))), (7, .int x12), (0, .ref h0), (1, .int (nI mm)), (2, .int (nI ct)), (3, .int (nI oo)), (4, .int (nI xx)), (5, .int (nI yy)), (6, .int x6)]) hx hb dX13_makePermutations_301 hl (k := 8) rfl (nI_1 a) (by decide) rfl (fun ls hl => ?_)
                          refine lv_goto (tgt := 209) hx hb dX13_makePermutations_304 (by decide) ?_
                          exact ih_a (a + 1) (by omega) H locs ls _ _ _ _ _ hP hD hS (lv_sub hl [2, 3, 4, 5, 6, 7, 8, 1, 0] rfl) hI
                        · refine lv_iconst (v := 1) hx hb dX13_makePermutations_293 (by decide) ?_
                          refine lv_goto (tgt := 298) hx hb dX13_makePermutations_294 (by decide) ?_
                          refine lv_iand hx hb dX13_makePermutations_298 ?_
                          refine lv_topi (fun x13 _ => ?_)
                          refine lv_istore (lv' := [(7, .int x13), (0, .ref h0), (1, .int (nI mm)), (2, .int (nI ct)), (3, .int (nI oo)), (4, .int (nI xx)), (5, .int (nI yy)), (6, .int x6), (8, .int (nI a))]) hx hb dX13_makePermutations_299 hl (by decide) rfl (fun ls hl => ?_)
                          refine lv_iinc (v := nI (a + 1)) (lv' := [(8, .int (nI (a + 1))), (7, .int x13), (0, .ref h0), (1, .int (nI mm)), (2, .int (nI ct)), (3, .int (nI oo)), (4, .int (nI xx)), (5, .int (nI yy)), (6, .int x6)]) hx hb dX13_makePermutations_301 hl (k := 8) rfl (nI_1 a) (by decide) rfl (fun ls hl => ?_)
                          refine lv_goto (tgt := 209) hx hb dX13_makePermutations_304 (by decide) ?_
                          exact ih_a (a + 1) (by omega) H locs ls _ _ _ _ _ hP hD hS (lv_sub hl [2, 3, 4, 5, 6, 7, 8, 1, 0] rfl) hI
                      refine lv_iload hx hb dX13_makePermutations_209 (lv_at hl 8 rfl) ?_
                      refine lv_iload_n hx hb dX13_makePermutations_211 rfl (lv_at hl 1 rfl) ?_
                      refine lv_icmp_ge (tgt := 307) hx hb dX13_makePermutations_212 (by decide) (fun c9 => absurd c9 (nI_ge (a := a) (b := mm) (by omega) (by omega))) (fun _ => ?_)
                      refine lv_iload hx hb dX13_makePermutations_215 (lv_at hl 6 rfl) ?_
                      refine lv_aload_n hx hb dX13_makePermutations_217 rfl (lv_at hl 0 rfl) ?_
                      refine lv_iload_n hx hb dX13_makePermutations_218 rfl (lv_at hl 1 rfl) ?_
                      refine lv_iload hx hb dX13_makePermutations_219 (lv_at hl 5 rfl) ?_
                      refine lv_aload_n hx hb dX13_makePermutations_221 rfl (lv_at hl 0 rfl) ?_
                      refine lv_iload_n hx hb dX13_makePermutations_222 rfl (lv_at hl 1 rfl) ?_
                      refine lv_iload_n hx hb dX13_makePermutations_223 rfl (lv_at hl 3 rfl) ?_
                      refine lv_iload hx hb dX13_makePermutations_224 (lv_at hl 8 rfl) ?_
                      have hPc := hP.sub (ws' := [(h0, .inr (16, fs)), (aI, .inl (cI, 480, .inl fI))]) [0, 1] rfl
                      refine va_calli (va_runV (As := [.int (nI mm), .int (nI oo), .int (nI a)]) (rest := [.int (nI yy), .int (nI mm), .ref h0, .int x6]) ⟨hx, hb, hml, hown, hts⟩ (kf_X13_image l dC dI cI cB cJ cZ h0 aI fs hfs hkaI fI hI mm oo a (by omega) (by omega) (by omega)) (cwV 3 hts gf_X13_makePermutations_a rfl rfl rfl (by decide +kernel) ⟨(Nat.le_of_ble_eq_true rfl), (Nat.le_of_ble_eq_true rfl)⟩) ⟨fun a U g mk q => by obtain ⟨q0, qP, qK⟩ := q; exact ⟨q0, qP, va_K.moved (u := U) (U := U.calling g mk a) (Vm.Alike.refl U.vm) qK⟩, va_recv hK hPc (ci := 16) (q0 := 0) rfl rfl, fun U hU hW => ⟨rfl, by rw [hU]; exact hPc, va_K.moved hW.alike hK⟩⟩ rfl rfl hl.1 rfl (lv_room (Nat.le_of_ble_eq_true rfl)) dX13_makePermutations_226 ⟨(Nat.le_of_ble_eq_true rfl), (Nat.le_of_ble_eq_true rfl)⟩) hS (fun q _ h => h.elim) (fun q h => h.elim) (fun xi14 un t H1 locs ht hvm hwxi14 hB hz1 hk1 hS => ?_)
                      have hP := hP.kept (fun k9 x9 h9 => hk1 x9.1 ((hP k9 x9 h9).lt) id)
                      generalize H1 = H at hP hS ⊢
                      obtain ⟨yxi14, hyxi14, exi14⟩ := hwxi14
                      subst exi14
                      have hPc := hP.sub (ws' := [(h0, .inr (16, fs)), (aI, .inl (cI, 480, .inl fI))]) [0, 1] rfl
                      refine va_calli (va_runV (As := [.int (nI mm), .int (nI yy), .int (nI yxi14)]) (rest := [.int x6]) ⟨hx, hb, hml, hown, hts⟩ (kf_X13_image l dC dI cI cB cJ cZ h0 aI fs hfs hkaI fI hI mm yy yxi14 (by omega) (by omega) (by omega)) (cwV 3 hts gf_X13_makePermutations_a rfl rfl rfl (by decide +kernel) ⟨(Nat.le_of_ble_eq_true rfl), (Nat.le_of_ble_eq_true rfl)⟩) ⟨fun a U g mk q => by obtain ⟨q0, qP, qK⟩ := q; exact ⟨q0, qP, va_K.moved (u := U) (U := U.calling g mk a) (Vm.Alike.refl U.vm) qK⟩, va_recv hK hPc (ci := 16) (q0 := 0) rfl rfl, fun U hU hW => ⟨rfl, by rw [hU]; exact hPc, va_K.moved hW.alike hK⟩⟩ rfl rfl hl.1 rfl (lv_room (Nat.le_of_ble_eq_true rfl)) dX13_makePermutations_229 ⟨(Nat.le_of_ble_eq_true rfl), (Nat.le_of_ble_eq_true rfl)⟩) hS (fun q _ h => h.elim) (fun q h => h.elim) (fun xi15 un t H1 locs ht hvm hwxi15 hB hz1 hk1 hS => ?_)
                      have hP := hP.kept (fun k9 x9 h9 => hk1 x9.1 ((hP k9 x9 h9).lt) id)
                      generalize H1 = H at hP hS ⊢
                      obtain ⟨yxi15, hyxi15, exi15⟩ := hwxi15
                      subst exi15
                      refine lv_aload_n hx hb dX13_makePermutations_232 rfl (lv_at hl 0 rfl) ?_
                      refine lv_iload_n hx hb dX13_makePermutations_233 rfl (lv_at hl 1 rfl) ?_
                      refine lv_iload_n hx hb dX13_makePermutations_234 rfl (lv_at hl 3 rfl) ?_
                      refine lv_aload_n hx hb dX13_makePermutations_235 rfl (lv_at hl 0 rfl) ?_
                      refine lv_iload_n hx hb dX13_makePermutations_236 rfl (lv_at hl 1 rfl) ?_
                      refine lv_iload hx hb dX13_makePermutations_237 (lv_at hl 4 rfl) ?_
                      refine lv_iload hx hb dX13_makePermutations_239 (lv_at hl 8 rfl) ?_
                      have hPc := hP.sub (ws' := [(h0, .inr (16, fs)), (aI, .inl (cI, 480, .inl fI))]) [0, 1] rfl
                      refine va_calli (va_runV (As := [.int (nI mm), .int (nI xx), .int (nI a)]) (rest := [.int (nI oo), .int (nI mm), .ref h0, .int (nI yxi15), .int x6]) ⟨hx, hb, hml, hown, hts⟩ (kf_X13_image l dC dI cI cB cJ cZ h0 aI fs hfs hkaI fI hI mm xx a (by omega) (by omega) (by omega)) (cwV 3 hts gf_X13_makePermutations_a rfl rfl rfl (by decide +kernel) ⟨(Nat.le_of_ble_eq_true rfl), (Nat.le_of_ble_eq_true rfl)⟩) ⟨fun a U g mk q => by obtain ⟨q0, qP, qK⟩ := q; exact ⟨q0, qP, va_K.moved (u := U) (U := U.calling g mk a) (Vm.Alike.refl U.vm) qK⟩, va_recv hK hPc (ci := 16) (q0 := 0) rfl rfl, fun U hU hW => ⟨rfl, by rw [hU]; exact hPc, va_K.moved hW.alike hK⟩⟩ rfl rfl hl.1 rfl (lv_room (Nat.le_of_ble_eq_true rfl)) dX13_makePermutations_241 ⟨(Nat.le_of_ble_eq_true rfl), (Nat.le_of_ble_eq_true rfl)⟩) hS (fun q _ h => h.elim) (fun q h => h.elim) (fun xi16 un t H1 locs ht hvm hwxi16 hB hz1 hk1 hS => ?_)
                      have hP := hP.kept (fun k9 x9 h9 => hk1 x9.1 ((hP k9 x9 h9).lt) id)
                      generalize H1 = H at hP hS ⊢
                      obtain ⟨yxi16, hyxi16, exi16⟩ := hwxi16
                      subst exi16
                      have hPc := hP.sub (ws' := [(h0, .inr (16, fs)), (aI, .inl (cI, 480, .inl fI))]) [0, 1] rfl
                      refine va_calli (va_runV (As := [.int (nI mm), .int (nI oo), .int (nI yxi16)]) (rest := [.int (nI yxi15), .int x6]) ⟨hx, hb, hml, hown, hts⟩ (kf_X13_image l dC dI cI cB cJ cZ h0 aI fs hfs hkaI fI hI mm oo yxi16 (by omega) (by omega) (by omega)) (cwV 3 hts gf_X13_makePermutations_a rfl rfl rfl (by decide +kernel) ⟨(Nat.le_of_ble_eq_true rfl), (Nat.le_of_ble_eq_true rfl)⟩) ⟨fun a U g mk q => by obtain ⟨q0, qP, qK⟩ := q; exact ⟨q0, qP, va_K.moved (u := U) (U := U.calling g mk a) (Vm.Alike.refl U.vm) qK⟩, va_recv hK hPc (ci := 16) (q0 := 0) rfl rfl, fun U hU hW => ⟨rfl, by rw [hU]; exact hPc, va_K.moved hW.alike hK⟩⟩ rfl rfl hl.1 rfl (lv_room (Nat.le_of_ble_eq_true rfl)) dX13_makePermutations_244 ⟨(Nat.le_of_ble_eq_true rfl), (Nat.le_of_ble_eq_true rfl)⟩) hS (fun q _ h => h.elim) (fun q h => h.elim) (fun xi17 un t H1 locs ht hvm hwxi17 hB hz1 hk1 hS => ?_)
                      have hP := hP.kept (fun k9 x9 h9 => hk1 x9.1 ((hP k9 x9 h9).lt) id)
                      generalize H1 = H at hP hS ⊢
                      obtain ⟨yxi17, hyxi17, exi17⟩ := hwxi17
                      subst exi17
                      refine lv_icmp_ne (tgt := 254) hx hb dX13_makePermutations_247 (by decide) (fun c18 => ?_) (fun c18 => ?_)
                      · refine lv_iconst (v := 0) hx hb dX13_makePermutations_254 (by decide) ?_
                        refine lv_iand hx hb dX13_makePermutations_255 ?_
                        refine lv_topi (fun x19 _ => ?_)
                        refine lv_istore (lv' := [(6, .int x19), (0, .ref h0), (1, .int (nI mm)), (2, .int (nI ct)), (3, .int (nI oo)), (4, .int (nI xx)), (5, .int (nI yy)), (7, .int x7), (8, .int (nI a))]) hx hb dX13_makePermutations_256 hl (by decide) rfl (fun ls hl => ?_)
                        exact L258 H locs ls _ _ _ _ _ hP hD hS (lv_sub hl [1, 2, 3, 4, 5, 6, 0, 7, 8] rfl) hI
                      · refine lv_iconst (v := 1) hx hb dX13_makePermutations_250 (by decide) ?_
                        refine lv_goto (tgt := 255) hx hb dX13_makePermutations_251 (by decide) ?_
                        refine lv_iand hx hb dX13_makePermutations_255 ?_
                        refine lv_topi (fun x20 _ => ?_)
                        refine lv_istore (lv' := [(6, .int x20), (0, .ref h0), (1, .int (nI mm)), (2, .int (nI ct)), (3, .int (nI oo)), (4, .int (nI xx)), (5, .int (nI yy)), (7, .int x7), (8, .int (nI a))]) hx hb dX13_makePermutations_256 hl (by decide) rfl (fun ls hl => ?_)
                        exact L258 H locs ls _ _ _ _ _ hP hD hS (lv_sub hl [1, 2, 3, 4, 5, 6, 0, 7, 8] rfl) hI
                  refine lv_iload hx hb dX13_makePermutations_194 (lv_at hl 5 rfl) ?_
                  refine lv_iload_n hx hb dX13_makePermutations_196 rfl (lv_at hl 2 rfl) ?_
                  refine lv_icmp_ge (tgt := 363) hx hb dX13_makePermutations_197 (by decide) (fun c9 => absurd c9 (nI_ge (a := yy) (b := ct) (by omega) (by omega))) (fun _ => ?_)
                  refine lv_iconst (v := 1) hx hb dX13_makePermutations_200 (by decide) ?_
                  refine lv_istore (lv' := [(6, .int 1), (0, .ref h0), (1, .int (nI mm)), (2, .int (nI ct)), (3, .int (nI oo)), (4, .int (nI xx)), (5, .int (nI yy))]) hx hb dX13_makePermutations_201 hl (by decide) rfl (fun ls hl => ?_)
                  refine lv_iconst (v := 1) hx hb dX13_makePermutations_203 (by decide) ?_
                  refine lv_istore (lv' := [(7, .int 1), (6, .int 1), (0, .ref h0), (1, .int (nI mm)), (2, .int (nI ct)), (3, .int (nI oo)), (4, .int (nI xx)), (5, .int (nI yy))]) hx hb dX13_makePermutations_204 hl (by decide) rfl (fun ls hl => ?_)
                  refine lv_iconst (v := 0) hx hb dX13_makePermutations_206 (by decide) ?_
                  refine ow_topi (y := nI 0) (by decide) ?_
                  refine lv_istore (lv' := [(8, .int (nI 0)), (7, .int 1), (6, .int 1), (0, .ref h0), (1, .int (nI mm)), (2, .int (nI ct)), (3, .int (nI oo)), (4, .int (nI xx)), (5, .int (nI yy))]) hx hb dX13_makePermutations_207 hl (by decide) rfl (fun ls hl => ?_)
                  exact L209 mm 0 (by omega) H locs ls _ _ _ _ _ hP hD hS (lv_sub hl [3, 4, 5, 6, 7, 8, 2, 1, 0] rfl) hI
              refine lv_iload hx hb dX13_makePermutations_185 (lv_at hl 4 rfl) ?_
              refine lv_iload_n hx hb dX13_makePermutations_187 rfl (lv_at hl 2 rfl) ?_
              refine lv_icmp_ge (tgt := 369) hx hb dX13_makePermutations_188 (by decide) (fun c9 => absurd c9 (nI_ge (a := xx) (b := ct) (by omega) (by omega))) (fun _ => ?_)
              refine lv_iconst (v := 0) hx hb dX13_makePermutations_191 (by decide) ?_
              refine ow_topi (y := nI 0) (by decide) ?_
              refine lv_istore (lv' := [(5, .int (nI 0)), (0, .ref h0), (1, .int (nI mm)), (2, .int (nI ct)), (3, .int (nI oo)), (4, .int (nI xx))]) hx hb dX13_makePermutations_192 hl (by decide) rfl (fun ls hl => ?_)
              exact L194 ct 0 (by omega) H locs ls _ _ _ hP hD hS (lv_sub hl [1, 2, 3, 4, 5, 0] rfl) hI
          refine lv_iload_n hx hb dX13_makePermutations_177 rfl (lv_at hl 3 rfl) ?_
          refine lv_iload_n hx hb dX13_makePermutations_178 rfl (lv_at hl 2 rfl) ?_
          refine lv_icmp_ge (tgt := 375) hx hb dX13_makePermutations_179 (by decide) (fun c9 => absurd c9 (nI_ge (a := oo) (b := ct) (by omega) (by omega))) (fun _ => ?_)
          refine lv_iconst (v := 0) hx hb dX13_makePermutations_182 (by decide) ?_
          refine ow_topi (y := nI 0) (by decide) ?_
          refine lv_istore (lv' := [(4, .int (nI 0)), (0, .ref h0), (1, .int (nI mm)), (2, .int (nI ct)), (3, .int (nI oo))]) hx hb dX13_makePermutations_183 hl (by decide) rfl (fun ls hl => ?_)
          exact L185 ct 0 (by omega) H locs ls _ _ _ hP hD hS (lv_sub hl [1, 2, 3, 4, 0] rfl) hI
      have L11 : ∀ (d q : Nat), q + d = 256 → ∀ (H : Heap) (locs : List Loc) (ls : Array Slot) (fI fN fB : Nat → Int32) (ct : Nat), va_P (dC, dI) vwCl [(h0, .inr (16, fs)), (aI, .inl (cI, 480, .inl fI)), (aN, .inl (cI, 2880, .inl fN)), (aB, .inl (cI, 2880, .inl fB))] H → va_D A [(h0, .inr (16, fs)), (aI, .inl (cI, 480, .inl fI)), (aN, .inl (cI, 2880, .inl fN)), (aB, .inl (cI, 2880, .inl fB))] → va_S A s.heap H locs → lv_has ls 9 [(0, .ref h0), (1, .int (nI mm)), (2, .int (nI ct)), (3, .int (nI q))] → ow_I4 fI → ct ≤ ow_pc mm q → W p l e ({ frames := 2, cells := 0, slots := 0, locals := 80 } : Room) s m ([.ref h0] : List Value).toArray below meth c H locs 0 0 QQ (F0 m 11 ls []) := by
        intro d
        induction d with
        | zero =>
          intro q hv_q H locs ls fI fN fB ct hP hD hS hl hI hct
          have hc24 := ow_pcb (mm := mm) (q := q) (by omega) (by omega)
          refine lv_iload_n hx hb dX13_makePermutations_11 rfl (lv_at hl 3 rfl) ?_
          refine lv_sipush (v := 256) hx hb dX13_makePermutations_12 (by decide) ?_
          refine lv_icmp_ge (tgt := 175) hx hb dX13_makePermutations_15 (by decide) (fun _ => ?_) (fun c9 => absurd (nI_le (a := 256) (b := q) (by omega) (by omega)) c9)
          refine lv_iconst (v := 0) hx hb dX13_makePermutations_175 (by decide) ?_
          refine ow_topi (y := nI 0) (by decide) ?_
          refine lv_istore_n (lv' := [(3, .int (nI 0)), (0, .ref h0), (1, .int (nI mm)), (2, .int (nI ct))]) hx hb dX13_makePermutations_176 rfl hl (by decide) rfl (fun ls hl => ?_)
          exact L177 ct ct 0 (by omega) (by omega) H locs ls _ _ _ hP hD hS (lv_sub hl [1, 2, 3, 0] rfl) hI
        | succ d ih_q =>
          intro q hv_q H locs ls fI fN fB ct hP hD hS hl hI hct
          have hc1 := ow_pc_le mm q
          have L130 : ∀ (d a : Nat), a + d = 4 → ∀ (H : Heap) (locs : List Loc) (ls : Array Slot) (fI fN fB : Nat → Int32), va_P (dC, dI) vwCl [(h0, .inr (16, fs)), (aI, .inl (cI, 480, .inl fI)), (aN, .inl (cI, 2880, .inl fN)), (aB, .inl (cI, 2880, .inl fB))] H → va_D A [(h0, .inr (16, fs)), (aI, .inl (cI, 480, .inl fI)), (aN, .inl (cI, 2880, .inl fN)), (aB, .inl (cI, 2880, .inl fB))] → va_S A s.heap H locs → lv_has ls 9 [(0, .ref h0), (1, .int (nI mm)), (2, .int (nI ct)), (3, .int (nI q)), (5, .int (nI a))] → ow_I4 fI → ow_pt mm q → W p l e ({ frames := 2, cells := 0, slots := 0, locals := 80 } : Room) s m ([.ref h0] : List Value).toArray below meth c H locs 0 0 QQ (F0 m 130 ls []) := by
            intro d
            induction d with
            | zero =>
              intro a hv_a H locs ls fI fN fB hP hD hS hl hI hpt
              have hp2 := ow_pcl (mm := mm) (q := q) (by omega) (by omega) hpt
              refine lv_iload hx hb dX13_makePermutations_130 (lv_at hl 4 rfl) ?_
              refine lv_iconst (v := 4) hx hb dX13_makePermutations_132 (by decide) ?_
              refine lv_icmp_ge (tgt := 166) hx hb dX13_makePermutations_133 (by decide) (fun _ => ?_) (fun c9 => absurd (nI_le (a := 4) (b := a) (by omega) (by omega)) c9)
              refine lv_iinc (v := nI (ct + 1)) (lv' := [(2, .int (nI (ct + 1))), (0, .ref h0), (1, .int (nI mm)), (3, .int (nI q)), (5, .int (nI a))]) hx hb dX13_makePermutations_166 hl (k := 2) rfl (nI_1 ct) (by decide) rfl (fun ls hl => ?_)
              refine lv_iinc (v := nI (q + 1)) (lv' := [(3, .int (nI (q + 1))), (2, .int (nI (ct + 1))), (0, .ref h0), (1, .int (nI mm)), (5, .int (nI a))]) hx hb dX13_makePermutations_169 hl (k := 3) rfl (nI_1 q) (by decide) rfl (fun ls hl => ?_)
              refine lv_goto (tgt := 11) hx hb dX13_makePermutations_172 (by decide) ?_
              exact ih_q (q + 1) (by omega) H locs ls _ _ _ (ct + 1) hP hD hS (lv_sub hl [2, 3, 1, 0] rfl) hI (by omega)
            | succ d ih_a =>
              intro a hv_a H locs ls fI fN fB hP hD hS hl hI hpt
              have hp2 := ow_pcl (mm := mm) (q := q) (by omega) (by omega) hpt
              refine lv_iload hx hb dX13_makePermutations_130 (lv_at hl 4 rfl) ?_
              refine lv_iconst (v := 4) hx hb dX13_makePermutations_132 (by decide) ?_
              refine lv_icmp_ge (tgt := 166) hx hb dX13_makePermutations_133 (by decide) (fun c9 => absurd c9 (nI_ge (a := a) (b := 4) (by omega) (by decide))) (fun _ => ?_)
              refine lv_aload_n hx hb dX13_makePermutations_136 rfl (lv_at hl 0 rfl) ?_
              refine va_get (D := (dC, dI)) (ci := 16) (v := .ref aI) (C := RX13) (T := TX13) (N := 120) hx hb hts (fun _ h => List.mem_cons_of_mem _ (List.mem_append_left _ (List.mem_append_right _ h))) hown hK hP 0 rfl rfl 73 (by decide) (hts (.fieldLink RX13 268 "KnotHouseModel" "images" "[I") (by decide +kernel)) (fun _ h9 => h9) hkaI dX13_makePermutations_137 ?_
              refine lv_bipush (v := 96) hx hb dX13_makePermutations_140 (by decide) ?_
              refine lv_iload_n hx hb dX13_makePermutations_142 rfl (lv_at hl 1 rfl) ?_
              refine lv_imul hx hb dX13_makePermutations_143 ?_
              refine ow_topi (y := nI (96 * mm)) (pk_mul 96 mm) ?_
              refine lv_iconst (v := 4) hx hb dX13_makePermutations_144 (by decide) ?_
              refine lv_iload_n hx hb dX13_makePermutations_145 rfl (lv_at hl 2 rfl) ?_
              refine lv_imul hx hb dX13_makePermutations_146 ?_
              refine ow_topi (y := nI (4 * ct)) (pk_mul 4 ct) ?_
              refine lv_iadd hx hb dX13_makePermutations_147 ?_
              refine ow_topi (y := nI (96 * mm + 4 * ct)) (nI_add (96 * mm) (4 * ct)) ?_
              refine lv_iload hx hb dX13_makePermutations_148 (lv_at hl 4 rfl) ?_
              refine lv_iadd hx hb dX13_makePermutations_150 ?_
              refine ow_topi (y := nI (96 * mm + 4 * ct + a)) (nI_add (96 * mm + 4 * ct) a) ?_
              refine lv_iload_n hx hb dX13_makePermutations_151 rfl (lv_at hl 3 rfl) ?_
              refine lv_iconst (v := 2) hx hb dX13_makePermutations_152 (by decide) ?_
              refine lv_iload hx hb dX13_makePermutations_153 (lv_at hl 4 rfl) ?_
              refine lv_imul hx hb dX13_makePermutations_155 ?_
              refine ow_topi (y := nI (2 * a)) (pk_mul 2 a) ?_
              refine lv_ishr hx hb dX13_makePermutations_156 ?_
              refine lv_iconst (v := 3) hx hb dX13_makePermutations_157 (by decide) ?_
              refine lv_iand hx hb dX13_makePermutations_158 ?_
              refine ow_topi (y := nI (ow_pd q a)) (ow_pdI q (by omega) a (by omega)) ?_
              refine ow_iastU (j := 96 * mm + 4 * ct + a) hx hb hK hP hD hS 1 0 rfl rfl rfl (by omega) (by decide) dX13_makePermutations_159 (fun f21 H locs ef21 nf21 hP hD hS => ?_)
              have hP : va_P (dC, dI) vwCl [(h0, .inr (16, fs)), (aI, .inl (cI, 480, .inl f21)), (aN, .inl (cI, 2880, .inl fN)), (aB, .inl (cI, 2880, .inl fB))] H := hP
              have hD : va_D A [(h0, .inr (16, fs)), (aI, .inl (cI, 480, .inl f21)), (aN, .inl (cI, 2880, .inl fN)), (aB, .inl (cI, 2880, .inl fB))] := hD
              refine lv_iinc (v := nI (a + 1)) (lv' := [(5, .int (nI (a + 1))), (0, .ref h0), (1, .int (nI mm)), (2, .int (nI ct)), (3, .int (nI q))]) hx hb dX13_makePermutations_160 hl (k := 4) rfl (nI_1 a) (by decide) rfl (fun ls hl => ?_)
              refine lv_goto (tgt := 130) hx hb dX13_makePermutations_163 (by decide) ?_
              have hI := hI.up (ow_pd4 q a) ef21 nf21
              exact ih_a (a + 1) (by omega) H locs ls _ _ _ hP hD hS (lv_sub hl [1, 2, 3, 4, 0] rfl) hI hpt
          have L24 : ∀ (d a : Nat), a + d = 4 → ∀ (ls : Array Slot) (x : Int32), lv_has ls 9 [(0, .ref h0), (1, .int (nI mm)), (2, .int (nI ct)), (3, .int (nI q)), (4, .int x), (5, .int (nI a))] → (x = 1 ∨ x = 0) → (x = 1 → ∀ u, u < a → ow_p1 mm q u) → W p l e ({ frames := 2, cells := 0, slots := 0, locals := 80 } : Room) s m ([.ref h0] : List Value).toArray below meth c H locs 0 0 QQ (F0 m 24 ls []) := by
            intro d
            induction d with
            | zero =>
              intro a hv_a ls x hl h01 hx1
              refine lv_iload hx hb dX13_makePermutations_24 (lv_at hl 5 rfl) ?_
              refine lv_iconst (v := 4) hx hb dX13_makePermutations_26 (by decide) ?_
              refine lv_icmp_ge (tgt := 122) hx hb dX13_makePermutations_27 (by decide) (fun _ => ?_) (fun c9 => absurd (nI_le (a := 4) (b := a) (by omega) (by omega)) c9)
              refine lv_iload hx hb dX13_makePermutations_122 (lv_at hl 4 rfl) ?_
              refine lv_if_eq (tgt := 169) hx hb dX13_makePermutations_124 (by decide) (fun c22 => ?_) (fun c22 => ?_)
              · refine lv_iinc (v := nI (q + 1)) (lv' := [(3, .int (nI (q + 1))), (0, .ref h0), (1, .int (nI mm)), (2, .int (nI ct)), (4, .int x), (5, .int (nI a))]) hx hb dX13_makePermutations_169 hl (k := 3) rfl (nI_1 q) (by decide) rfl (fun ls hl => ?_)
                refine lv_goto (tgt := 11) hx hb dX13_makePermutations_172 (by decide) ?_
                exact ih_q (q + 1) (by omega) H locs ls _ _ _ ct hP hD hS (lv_sub hl [1, 2, 3, 0] rfl) hI (by omega)
              · have hpt : ow_pt mm q := fun u9 h9 => hx1 (h01.resolve_right c22) u9 (by omega)
                refine lv_iconst (v := 0) hx hb dX13_makePermutations_127 (by decide) ?_
                refine ow_topi (y := nI 0) (by decide) ?_
                refine lv_istore (lv' := [(5, .int (nI 0)), (0, .ref h0), (1, .int (nI mm)), (2, .int (nI ct)), (3, .int (nI q)), (4, .int x)]) hx hb dX13_makePermutations_128 hl (by decide) rfl (fun ls hl => ?_)
                exact L130 4 0 (by omega) H locs ls _ _ _ hP hD hS (lv_sub hl [1, 2, 3, 4, 0] rfl) hI hpt
            | succ d ih_a =>
              intro a hv_a ls x hl h01 hx1
              have L80 : ∀ (d b : Nat), b + d = a → ∀ (ls : Array Slot) (x : Int32), lv_has ls 9 [(0, .ref h0), (1, .int (nI mm)), (2, .int (nI ct)), (3, .int (nI q)), (4, .int x), (5, .int (nI a)), (6, .int (nI (ow_pd q a))), (7, .int (nI b))] → (x = 1 ∨ x = 0) → (x = 1 → (∀ u, u < a → ow_p1 mm q u) ∧ (if a < mm then ow_pd q a < mm else ow_pd q a = a) ∧ ∀ u, u < b → ow_pd q u ≠ ow_pd q a) → W p l e ({ frames := 2, cells := 0, slots := 0, locals := 80 } : Room) s m ([.ref h0] : List Value).toArray below meth c H locs 0 0 QQ (F0 m 80 ls []) := by
                intro d
                induction d with
                | zero =>
                  intro b hv_b ls x hl h01 hx1
                  refine lv_iload hx hb dX13_makePermutations_80 (lv_at hl 7 rfl) ?_
                  refine lv_iload hx hb dX13_makePermutations_82 (lv_at hl 5 rfl) ?_
                  refine lv_icmp_ge (tgt := 116) hx hb dX13_makePermutations_84 (by decide) (fun _ => ?_) (fun c9 => absurd (nI_le (a := a) (b := b) (by omega) (by omega)) c9)
                  refine lv_iinc (v := nI (a + 1)) (lv' := [(5, .int (nI (a + 1))), (0, .ref h0), (1, .int (nI mm)), (2, .int (nI ct)), (3, .int (nI q)), (4, .int x), (6, .int (nI (ow_pd q a))), (7, .int (nI b))]) hx hb dX13_makePermutations_116 hl (k := 5) rfl (nI_1 a) (by decide) rfl (fun ls hl => ?_)
                  refine lv_goto (tgt := 24) hx hb dX13_makePermutations_119 (by decide) ?_
                  refine ih_a (a + 1) (by omega) ls x (lv_sub hl [1, 2, 3, 4, 5, 0] rfl) h01 (fun h9 u9 y9 => ?_)
                  rcases Nat.lt_or_ge u9 a with z9 | z9
                  · exact (hx1 h9).1 u9 z9
                  · have e9 : u9 = a := by omega
                    rw [e9]
                    exact ⟨(hx1 h9).2.1, fun b9 g9 => (hx1 h9).2.2 b9 (by omega)⟩
                | succ d ih_b =>
                  intro b hv_b ls x hl h01 hx1
                  refine lv_iload hx hb dX13_makePermutations_80 (lv_at hl 7 rfl) ?_
                  refine lv_iload hx hb dX13_makePermutations_82 (lv_at hl 5 rfl) ?_
                  refine lv_icmp_ge (tgt := 116) hx hb dX13_makePermutations_84 (by decide) (fun c9 => absurd c9 (nI_ge (a := b) (b := a) (by omega) (by omega))) (fun _ => ?_)
                  refine lv_iload hx hb dX13_makePermutations_87 (lv_at hl 4 rfl) ?_
                  refine lv_iload_n hx hb dX13_makePermutations_89 rfl (lv_at hl 3 rfl) ?_
                  refine lv_iconst (v := 2) hx hb dX13_makePermutations_90 (by decide) ?_
                  refine lv_iload hx hb dX13_makePermutations_91 (lv_at hl 7 rfl) ?_
                  refine lv_imul hx hb dX13_makePermutations_93 ?_
                  refine ow_topi (y := nI (2 * b)) (pk_mul 2 b) ?_
                  refine lv_ishr hx hb dX13_makePermutations_94 ?_
                  refine lv_iconst (v := 3) hx hb dX13_makePermutations_95 (by decide) ?_
                  refine lv_iand hx hb dX13_makePermutations_96 ?_
                  refine ow_topi (y := nI (ow_pd q b)) (ow_pdI q (by omega) b (by omega)) ?_
                  refine lv_iload hx hb dX13_makePermutations_97 (lv_at hl 6 rfl) ?_
                  refine lv_icmp_eq (tgt := 106) hx hb dX13_makePermutations_99 (by decide) (fun c23 => ?_) (fun c23 => ?_)
                  · refine lv_iconst (v := 0) hx hb dX13_makePermutations_106 (by decide) ?_
                    refine lv_iand hx hb dX13_makePermutations_107 ?_
                    refine ow_topi (y := 0) (by rcases h01 with h9 | h9 <;> rw [h9] <;> decide) ?_
                    refine lv_istore (lv' := [(4, .int (0)), (0, .ref h0), (1, .int (nI mm)), (2, .int (nI ct)), (3, .int (nI q)), (5, .int (nI a)), (6, .int (nI (ow_pd q a))), (7, .int (nI b))]) hx hb dX13_makePermutations_108 hl (by decide) rfl (fun ls hl => ?_)
                    refine lv_iinc (v := nI (b + 1)) (lv' := [(7, .int (nI (b + 1))), (4, .int (0)), (0, .ref h0), (1, .int (nI mm)), (2, .int (nI ct)), (3, .int (nI q)), (5, .int (nI a)), (6, .int (nI (ow_pd q a)))]) hx hb dX13_makePermutations_110 hl (k := 7) rfl (nI_1 b) (by decide) rfl (fun ls hl => ?_)
                    refine lv_goto (tgt := 80) hx hb dX13_makePermutations_113 (by decide) ?_
                    exact ih_b (b + 1) (by omega) ls 0 (lv_sub hl [2, 3, 4, 5, 1, 6, 7, 0] rfl) (Or.inr rfl) (fun h9 => absurd h9 (by decide))
                  · refine lv_iconst (v := 1) hx hb dX13_makePermutations_102 (by decide) ?_
                    refine lv_goto (tgt := 107) hx hb dX13_makePermutations_103 (by decide) ?_
                    refine lv_iand hx hb dX13_makePermutations_107 ?_
                    refine ow_topi (y := x) (by rcases h01 with h9 | h9 <;> rw [h9] <;> decide) ?_
                    refine lv_istore (lv' := [(4, .int (x)), (0, .ref h0), (1, .int (nI mm)), (2, .int (nI ct)), (3, .int (nI q)), (5, .int (nI a)), (6, .int (nI (ow_pd q a))), (7, .int (nI b))]) hx hb dX13_makePermutations_108 hl (by decide) rfl (fun ls hl => ?_)
                    refine lv_iinc (v := nI (b + 1)) (lv' := [(7, .int (nI (b + 1))), (4, .int (x)), (0, .ref h0), (1, .int (nI mm)), (2, .int (nI ct)), (3, .int (nI q)), (5, .int (nI a)), (6, .int (nI (ow_pd q a)))]) hx hb dX13_makePermutations_110 hl (k := 7) rfl (nI_1 b) (by decide) rfl (fun ls hl => ?_)
                    refine lv_goto (tgt := 80) hx hb dX13_makePermutations_113 (by decide) ?_
                    refine ih_b (b + 1) (by omega) ls x (lv_sub hl [2, 3, 4, 5, 1, 6, 7, 0] rfl) h01 (fun h9 => ⟨(hx1 h9).1, (hx1 h9).2.1, fun u9 y9 => ?_⟩)
                    rcases Nat.lt_or_ge u9 b with z9 | z9
                    · exact (hx1 h9).2.2 u9 z9
                    · have e9 : u9 = b := by omega
                      rw [e9]
                      exact fun g9 => c23 (congrArg nI g9)
              refine lv_iload hx hb dX13_makePermutations_24 (lv_at hl 5 rfl) ?_
              refine lv_iconst (v := 4) hx hb dX13_makePermutations_26 (by decide) ?_
              refine lv_icmp_ge (tgt := 122) hx hb dX13_makePermutations_27 (by decide) (fun c9 => absurd c9 (nI_ge (a := a) (b := 4) (by omega) (by decide))) (fun _ => ?_)
              refine lv_iload_n hx hb dX13_makePermutations_30 rfl (lv_at hl 3 rfl) ?_
              refine lv_iconst (v := 2) hx hb dX13_makePermutations_31 (by decide) ?_
              refine lv_iload hx hb dX13_makePermutations_32 (lv_at hl 5 rfl) ?_
              refine lv_imul hx hb dX13_makePermutations_34 ?_
              refine ow_topi (y := nI (2 * a)) (pk_mul 2 a) ?_
              refine lv_ishr hx hb dX13_makePermutations_35 ?_
              refine lv_iconst (v := 3) hx hb dX13_makePermutations_36 (by decide) ?_
              refine lv_iand hx hb dX13_makePermutations_37 ?_
              refine ow_topi (y := nI (ow_pd q a)) (ow_pdI q (by omega) a (by omega)) ?_
              refine lv_istore (lv' := [(6, .int (nI (ow_pd q a))), (0, .ref h0), (1, .int (nI mm)), (2, .int (nI ct)), (3, .int (nI q)), (4, .int x), (5, .int (nI a))]) hx hb dX13_makePermutations_38 hl (by decide) rfl (fun ls hl => ?_)
              refine lv_iload hx hb dX13_makePermutations_40 (lv_at hl 5 rfl) ?_
              refine lv_iload hx hb dX13_makePermutations_42 (lv_at hl 6 rfl) ?_
              refine lv_iload_n hx hb dX13_makePermutations_44 rfl (lv_at hl 2 rfl) ?_
              refine lv_icmp_ge (tgt := 62) hx hb dX13_makePermutations_45 (by decide) (fun c24 => ?_) (fun c24 => ?_)
              · have hna : ¬ a < mm := fun h9 => absurd c24 (nI_ge (a := a) (b := mm) h9 (by omega))
                refine lv_iload hx hb dX13_makePermutations_62 (lv_at hl 0 rfl) ?_
                refine lv_iload hx hb dX13_makePermutations_64 (lv_at hl 6 rfl) ?_
                refine lv_icmp_ne (tgt := 73) hx hb dX13_makePermutations_66 (by decide) (fun c25 => ?_) (fun c25 => ?_)
                · refine lv_iconst (v := 0) hx hb dX13_makePermutations_73 (by decide) ?_
                  refine lv_iand hx hb dX13_makePermutations_74 ?_
                  refine ow_topi (y := 0) (by rcases h01 with h9 | h9 <;> rw [h9] <;> decide) ?_
                  refine lv_istore (lv' := [(4, .int (0)), (6, .int (nI (ow_pd q a))), (0, .ref h0), (1, .int (nI mm)), (2, .int (nI ct)), (3, .int (nI q)), (5, .int (nI a))]) hx hb dX13_makePermutations_75 hl (by decide) rfl (fun ls hl => ?_)
                  refine lv_iconst (v := 0) hx hb dX13_makePermutations_77 (by decide) ?_
                  refine ow_topi (y := nI 0) (by decide) ?_
                  refine lv_istore (lv' := [(7, .int (nI 0)), (4, .int (0)), (6, .int (nI (ow_pd q a))), (0, .ref h0), (1, .int (nI mm)), (2, .int (nI ct)), (3, .int (nI q)), (5, .int (nI a))]) hx hb dX13_makePermutations_78 hl (by decide) rfl (fun ls hl => ?_)
                  exact L80 a 0 (by omega) ls 0 (lv_sub hl [3, 4, 5, 6, 1, 7, 2, 0] rfl) (Or.inr rfl) (fun h9 => absurd h9 (by decide))
                · have hp4 := ow_pd4 q a
                  refine lv_iconst (v := 1) hx hb dX13_makePermutations_69 (by decide) ?_
                  refine lv_goto (tgt := 74) hx hb dX13_makePermutations_70 (by decide) ?_
                  refine lv_iand hx hb dX13_makePermutations_74 ?_
                  refine ow_topi (y := x) (by rcases h01 with h9 | h9 <;> rw [h9] <;> decide) ?_
                  refine lv_istore (lv' := [(4, .int (x)), (6, .int (nI (ow_pd q a))), (0, .ref h0), (1, .int (nI mm)), (2, .int (nI ct)), (3, .int (nI q)), (5, .int (nI a))]) hx hb dX13_makePermutations_75 hl (by decide) rfl (fun ls hl => ?_)
                  refine lv_iconst (v := 0) hx hb dX13_makePermutations_77 (by decide) ?_
                  refine ow_topi (y := nI 0) (by decide) ?_
                  refine lv_istore (lv' := [(7, .int (nI 0)), (4, .int (x)), (6, .int (nI (ow_pd q a))), (0, .ref h0), (1, .int (nI mm)), (2, .int (nI ct)), (3, .int (nI q)), (5, .int (nI a))]) hx hb dX13_makePermutations_78 hl (by decide) rfl (fun ls hl => ?_)
                  exact L80 a 0 (by omega) ls x (lv_sub hl [3, 4, 5, 6, 1, 7, 2, 0] rfl) h01 (fun h9 => ⟨hx1 h9, by rw [if_neg hna]; exact ow_inj8 _ (by omega) _ (by omega) c25, fun u9 y9 => absurd y9 (Nat.not_lt_zero u9)⟩)
              · have hna : a < mm := by
                  rcases Nat.lt_or_ge a mm with y9 | y9
                  · exact y9
                  · exact absurd (nI_le (a := mm) (b := a) y9 (by omega)) c24
                refine lv_iload hx hb dX13_makePermutations_48 (lv_at hl 0 rfl) ?_
                refine lv_iload_n hx hb dX13_makePermutations_50 rfl (lv_at hl 2 rfl) ?_
                refine lv_icmp_ge (tgt := 58) hx hb dX13_makePermutations_51 (by decide) (fun c26 => ?_) (fun c26 => ?_)
                · refine lv_iconst (v := 0) hx hb dX13_makePermutations_58 (by decide) ?_
                  refine lv_goto (tgt := 74) hx hb dX13_makePermutations_59 (by decide) ?_
                  refine lv_iand hx hb dX13_makePermutations_74 ?_
                  refine ow_topi (y := 0) (by rcases h01 with h9 | h9 <;> rw [h9] <;> decide) ?_
                  refine lv_istore (lv' := [(4, .int (0)), (6, .int (nI (ow_pd q a))), (0, .ref h0), (1, .int (nI mm)), (2, .int (nI ct)), (3, .int (nI q)), (5, .int (nI a))]) hx hb dX13_makePermutations_75 hl (by decide) rfl (fun ls hl => ?_)
                  refine lv_iconst (v := 0) hx hb dX13_makePermutations_77 (by decide) ?_
                  refine ow_topi (y := nI 0) (by decide) ?_
                  refine lv_istore (lv' := [(7, .int (nI 0)), (4, .int (0)), (6, .int (nI (ow_pd q a))), (0, .ref h0), (1, .int (nI mm)), (2, .int (nI ct)), (3, .int (nI q)), (5, .int (nI a))]) hx hb dX13_makePermutations_78 hl (by decide) rfl (fun ls hl => ?_)
                  exact L80 a 0 (by omega) ls 0 (lv_sub hl [3, 4, 5, 6, 1, 7, 2, 0] rfl) (Or.inr rfl) (fun h9 => absurd h9 (by decide))
                · have hp4 := ow_pd4 q a
                  refine lv_iconst (v := 1) hx hb dX13_makePermutations_54 (by decide) ?_
                  refine lv_goto (tgt := 74) hx hb dX13_makePermutations_55 (by decide) ?_
                  refine lv_iand hx hb dX13_makePermutations_74 ?_
                  refine ow_topi (y := x) (by rcases h01 with h9 | h9 <;> rw [h9] <;> decide) ?_
                  refine lv_istore (lv' := [(4, .int (x)), (6, .int (nI (ow_pd q a))), (0, .ref h0), (1, .int (nI mm)), (2, .int (nI ct)), (3, .int (nI q)), (5, .int (nI a))]) hx hb dX13_makePermutations_75 hl (by decide) rfl (fun ls hl => ?_)
                  refine lv_iconst (v := 0) hx hb dX13_makePermutations_77 (by decide) ?_
                  refine ow_topi (y := nI 0) (by decide) ?_
                  refine lv_istore (lv' := [(7, .int (nI 0)), (4, .int (x)), (6, .int (nI (ow_pd q a))), (0, .ref h0), (1, .int (nI mm)), (2, .int (nI ct)), (3, .int (nI q)), (5, .int (nI a))]) hx hb dX13_makePermutations_78 hl (by decide) rfl (fun ls hl => ?_)
                  exact L80 a 0 (by omega) ls x (lv_sub hl [3, 4, 5, 6, 1, 7, 2, 0] rfl) h01 (fun h9 => ⟨hx1 h9, by rw [if_pos hna]; rcases Nat.lt_or_ge (ow_pd q a) mm with y9 | y9; exact y9; exact absurd (nI_le (a := mm) (b := ow_pd q a) y9 (by omega)) c26, fun u9 y9 => absurd y9 (Nat.not_lt_zero u9)⟩)
          refine lv_iload_n hx hb dX13_makePermutations_11 rfl (lv_at hl 3 rfl) ?_
          refine lv_sipush (v := 256) hx hb dX13_makePermutations_12 (by decide) ?_
          refine lv_icmp_ge (tgt := 175) hx hb dX13_makePermutations_15 (by decide) (fun c9 => absurd c9 (nI_ge (a := q) (b := 256) (by omega) (by decide))) (fun _ => ?_)
          refine lv_iconst (v := 1) hx hb dX13_makePermutations_18 (by decide) ?_
          refine lv_istore (lv' := [(4, .int 1), (0, .ref h0), (1, .int (nI mm)), (2, .int (nI ct)), (3, .int (nI q))]) hx hb dX13_makePermutations_19 hl (by decide) rfl (fun ls hl => ?_)
          refine lv_iconst (v := 0) hx hb dX13_makePermutations_21 (by decide) ?_
          refine ow_topi (y := nI 0) (by decide) ?_
          refine lv_istore (lv' := [(5, .int (nI 0)), (4, .int 1), (0, .ref h0), (1, .int (nI mm)), (2, .int (nI ct)), (3, .int (nI q))]) hx hb dX13_makePermutations_22 hl (by decide) rfl (fun ls hl => ?_)
          exact L24 4 0 (by omega) ls 1 (lv_sub hl [2, 3, 4, 5, 1, 0] rfl) (Or.inl rfl) (fun _ u9 h9 => absurd h9 (Nat.not_lt_zero u9))
      refine lv_iload_n hx hb dX13_makePermutations_2 rfl (lv_at hl 1 rfl) ?_
      refine lv_iconst (v := 4) hx hb dX13_makePermutations_3 (by decide) ?_
      refine lv_icmp_gt (tgt := 381) hx hb dX13_makePermutations_4 (by decide) (fun c9 => absurd c9 (Int32.not_lt.mpr (nI_le (a := mm) (b := 4) hm4 (by decide)))) (fun _ => ?_)
      refine lv_iconst (v := 0) hx hb dX13_makePermutations_7 (by decide) ?_
      refine ow_topi (y := nI 0) (by decide) ?_
      refine lv_istore_n (lv' := [(2, .int (nI 0)), (0, .ref h0), (1, .int (nI mm))]) hx hb dX13_makePermutations_8 rfl hl (by decide) rfl (fun ls hl => ?_)
      refine lv_iconst (v := 0) hx hb dX13_makePermutations_9 (by decide) ?_
      refine ow_topi (y := nI 0) (by decide) ?_
      refine lv_istore_n (lv' := [(3, .int (nI 0)), (2, .int (nI 0)), (0, .ref h0), (1, .int (nI mm))]) hx hb dX13_makePermutations_10 rfl hl (by decide) rfl (fun ls hl => ?_)
      exact L11 256 0 (by omega) H locs ls _ _ _ 0 hP hD hS (lv_sub hl [2, 3, 1, 0] rfl) hI (Nat.zero_le _)
  refine lv_iconst (v := 1) hx hb dX13_makePermutations_0 (by decide) ?_
  refine ow_topi (y := nI 1) (by decide) ?_
  refine lv_istore_n (lv' := [(1, .int (nI 1)), (0, .ref h0)]) hx hb dX13_makePermutations_1 rfl hl (by decide) rfl (fun ls hl => ?_)
  exact L2 4 1 (by omega) (by omega) s.heap [] ls _ _ _ hP hD hS (lv_sub hl [1, 0] rfl) hI
