theorem tw_no {O : Type} {out : O} {P : Prop} (h : (none : Option O) = some out) : P := nomatch h
section MPURE
variable {p : Program} {l : Launch} {e : Env} {R : Room} {s : State} {m : MethodId} {args : Array Value} {below : List Frame} {meth : Method} {c : Code} {H : Heap} {locs : List Loc} {cells slots : Nat} {Q : State → Prop}
variable {cc : ByteArray} {pc : Nat} {ls : Array Slot} {rest : List Value} {D : va_G} {H0 : Heap} {q : ow_Q5} {u : Nat → Nat} {z : ow_MS}
theorem mw_pure {a : Array Value} {st0 : List Value} {y : Int32} (hM : tw_M D vwCl mX q H0 u z H locs) (hr : va_Run p l e R s m args below meth c H locs cells slots 0 0 (F0 m pc ls st0) rest (va_Qi (fun r (_ : Unit) => r = y) (fun _ _ => True) (fun _ => False) a) (fun _ => False)) (kk : ∀ H1 locs1, tw_M D vwCl mX q H0 u z H1 locs1 → W p l e R s m args below meth c H1 locs1 cells slots Q (F0 m (pc + 3) ls (.int y :: rest))) : W p l e R s m args below meth c H locs cells slots Q (F0 m pc ls st0) := by
  refine va_calli hr hM.2 (fun _ _ h => h.elim) (fun _ h => h.elim) (fun r1 _ t H1 locs1 ht _ hw hB _ hk1 hS => ?_)
  rw [hw]
  exact kk H1 locs1 ⟨hM.1.kept (fun k9 x9 h9 => hk1 x9.1 ((hM.1 k9 x9 h9).lt) id), hS⟩
end MPURE
def ow_sgnJ (x : Int64) : Int32 := ((x >>> ((63 : Int32).toInt64 &&& 63)) ||| (((-x).toUInt64 >>> ((63 : Int32).toInt64.toUInt64 &&& Int64.toUInt64 63)).toInt64)).toInt32
def wg_sg : List Cond := [.code yJ13_signum_95d88 cJ13_signum_95d88 2 (some .int)]
theorem dsg_0 : decode cJ13_signum_95d88 0 = .ok (.lload_n 0, 1) := by decide +kernel
theorem dsg_1 : decode cJ13_signum_95d88 1 = .ok (.bipush 63, 2) := by decide +kernel
theorem dsg_3 : decode cJ13_signum_95d88 3 = .ok (.lshr, 1) := by decide +kernel
theorem dsg_4 : decode cJ13_signum_95d88 4 = .ok (.lload_n 0, 1) := by decide +kernel
theorem dsg_5 : decode cJ13_signum_95d88 5 = .ok (.lneg, 1) := by decide +kernel
theorem dsg_6 : decode cJ13_signum_95d88 6 = .ok (.bipush 63, 2) := by decide +kernel
theorem dsg_8 : decode cJ13_signum_95d88 8 = .ok (.lushr, 1) := by decide +kernel
theorem dsg_9 : decode cJ13_signum_95d88 9 = .ok (.lor, 1) := by decide +kernel
theorem dsg_10 : decode cJ13_signum_95d88 10 = .ok (.l2i, 1) := by decide +kernel
theorem dsg_11 : decode cJ13_signum_95d88 11 = .ok (.ireturn, 1) := by decide +kernel
set_option maxHeartbeats 4000000 in
set_option maxRecDepth 100000 in
theorem k_J13_signum (l : Launch) (a : Int64) : Met l yJ13_signum_95d88 wg_sg (({ frames := 0, cells := 0, slots := 0, locals := 0 } : Room)) (va_Pc [.long a] (fun _ => True)) (va_Qi (fun r (_ : Unit) => r = ow_sgnJ a) (fun _ _ => True) (fun _ => False)) 0 0 (fun _ => False) := by
  refine Met.ofW (cc := cJ13_signum_95d88) (maxL := 2) (ret := (some .int)) (by decide) rfl ?_
  intro p e s m args below meth c s₁ B hml hv
  obtain ⟨rfl, hpre⟩ := hv
  have hx := B.exec
  have hb := B.bytes
  have hr := B.returns
  have hlocks := B.notSynchronized
  have hS : va_S (fun _ => False) s.heap s.heap [] := va_S.rf
  have hl := lv_entry ([.long a]) (n := 2) (Nat.le_of_ble_eq_true rfl)
  rw [lg_entry_eq]
  generalize (lg_sl ([.long a]) ++ List.replicate (2 - (lg_sl ([.long a])).length) Slot.unset).toArray = ls at hl ⊢
  have hl : lv_has ls 2 [(0, .long a)] := hl
  refine lv_lload_n hx hb dsg_0 rfl (lv_at hl 0 rfl) ?_
  refine lv_bipush (v := 63) hx hb dsg_1 (by decide) ?_
  refine lv_lshr hx hb dsg_3 rfl ?_
  refine lv_lload_n hx hb dsg_4 rfl (lv_at hl 0 rfl) ?_
  refine lv_lneg hx hb dsg_5 ?_
  refine lv_bipush (v := 63) hx hb dsg_6 (by decide) ?_
  refine lv_lushr hx hb dsg_8 rfl ?_
  refine lv_lor hx hb dsg_9 ?_
  refine lv_l2i hx hb dsg_10 rfl ?_
  exact W.iret hx hb hr (fun t ht hW => ⟨⟨_, (), rfl, rfl, trivial⟩, hS.F ht⟩) hS.2.2 dsg_11
theorem mw_gbc {c0 : Cond} {idx : Nat} (h : Cond.methodLink RX13 idx yJ6_bitCount_0f7a4 ∈ wM) : GoodIn (c0 :: wM) (va_wsS RX13 idx yJ6_bitCount_0f7a4 wsJ6_bitCount_0f7a4) := by
  have g : ∀ w ∈ wM, w ∈ c0 :: wM ∧ ((w.onTables && w.keeps) = true ∨ ∃ ty, w = .arrayClass ty) := fun w h => ⟨List.mem_cons_of_mem _ h, good_of_word (List.all_eq_true.mp wM_good w h)⟩
  intro w hw
  unfold va_wsS wsJ6_bitCount_0f7a4 at hw
  simp only [List.mem_append, List.mem_cons, List.not_mem_nil, or_false, List.append_nil] at hw
  rcases hw with (rfl | rfl | rfl) | rfl | rfl | rfl | rfl
  · exact g _ h
  · exact g _ wq_308
  · exact g _ wq_309
  · exact g _ wq_310
  · exact g _ wq_311
  · exact g _ wq_312
  · exact g _ wq_313
theorem mw_gsg {c0 : Cond} {idx : Nat} (h : Cond.methodLink RX13 idx yJ13_signum_95d88 ∈ wM) : GoodIn (c0 :: wM) (va_wsS RX13 idx yJ13_signum_95d88 wg_sg) := by
  have g : ∀ w ∈ wM, w ∈ c0 :: wM ∧ ((w.onTables && w.keeps) = true ∨ ∃ ty, w = .arrayClass ty) := fun w h => ⟨List.mem_cons_of_mem _ h, good_of_word (List.all_eq_true.mp wM_good w h)⟩
  intro w hw
  unfold va_wsS wg_sg at hw
  simp only [List.mem_append, List.mem_cons, List.not_mem_nil, or_false] at hw
  rcases hw with (rfl | rfl | rfl) | rfl
  · exact g _ h
  · exact g _ wq_346
  · exact g _ wq_347
  · exact g _ wq_348
theorem dmX12_clear_0 : decode cX12_clear 0 = .ok (.aload_n 0, 1) := by decide +kernel
theorem dmX12_clear_1 : decode cX12_clear 1 = .ok (.iconst 0, 1) := by decide +kernel
theorem dmX12_clear_2 : decode cX12_clear 2 = .ok (.putfield 48, 3) := by decide +kernel
theorem dmX12_clear_5 : decode cX12_clear 5 = .ok (.aload_n 0, 1) := by decide +kernel
theorem dmX12_clear_6 : decode cX12_clear 6 = .ok (.iconst 0, 1) := by decide +kernel
theorem dmX12_clear_7 : decode cX12_clear 7 = .ok (.putfield 52, 3) := by decide +kernel
theorem dmX12_clear_10 : decode cX12_clear 10 = .ok (.aload_n 0, 1) := by decide +kernel
theorem dmX12_clear_11 : decode cX12_clear 11 = .ok (.getfield 9, 3) := by decide +kernel
theorem dmX12_clear_14 : decode cX12_clear 14 = .ok (.iconst 0, 1) := by decide +kernel
theorem dmX12_clear_15 : decode cX12_clear 15 = .ok (.iconst 0, 1) := by decide +kernel
theorem dmX12_clear_16 : decode cX12_clear 16 = .ok (.iastore, 1) := by decide +kernel
theorem dmX12_clear_17 : decode cX12_clear 17 = .ok (.return_, 1) := by decide +kernel
def qm_X12_clear_0 (K : Nat) (r0 : Nat) (z : ow_MS) : Option ow_MS :=
 wrF z (r0 + 1) 0 fun z1 => wrF z1 (r0 + 2) 0 fun z2 => wrI mX z2 (r0 + 3) 0 0 fun z3 => some z3
def qe_X12_clear (K : Nat) (r0 : Nat) (z : ow_MS) : Option ow_MS := qm_X12_clear_0 K r0 z
abbrev wm_X12_clear : List Cond := .code yX12_clear cX12_clear 1 none :: wM
theorem cd_X12_clear : yX12_clear.cls = RX12 ∧ yX12_clear.cls ≠ "java/lang/invoke/MethodHandle" ∧ yX12_clear.cls ≠ "java/lang/invoke/VarHandle" ∧ (parseMethodDescriptor yX12_clear.desc).map (fun d => d.parameters.length) = some 0 := by decide +kernel
set_option maxHeartbeats 4000000 in
set_option maxRecDepth 100000 in
theorem km_X12_clear (l : Launch) (D : va_G) (q : ow_Q5) (u : Nat → Nat) (hU : tw_inj mX u) (K : Nat) (r0 : Nat) (hr0 : mw_net r0) (z z1 : ow_MS) (hq : qe_X12_clear K r0 z = some z1) : Met l yX12_clear wm_X12_clear ({ frames := 0, cells := 0, slots := 0, locals := 0 } : Room) (va_Pc [.ref (u r0)] (mw_pre D q u z)) (va_Qv (fun (_ : Unit) => True) (fun _ t => va_P D vwCl (tw mX q u z1) t.heap) (tw_A mX u)) 0 0 (tw_A mX u) := by
  refine Met.ofW (cc := cX12_clear) (maxL := 1) (ret := none) (by decide) rfl ?_
  intro p e s m args below meth c s₁ B hml hv
  obtain ⟨rfl, hP, hK, hN⟩ := hv
  have hx := B.exec
  have hb := B.bytes
  have hr := B.returns
  have hts := atoms_spec (ws := wm_X12_clear) B.pre
  have hT : ∀ w ∈ wM, w.before ([.ref (u r0)] : List Value).toArray s = true := fun w h => hts w (List.mem_cons_of_mem _ h)
  have hown : s.vm.findClass RX12 = some m.cls := findClass_of_methodNamed B.named
  have hlocks := B.notSynchronized
  have hM : tw_M D vwCl mX q s.heap u z s.heap [] := ⟨hP, va_S.rf⟩
  have hl := lv_entry ([.ref (u r0)]) (n := 1) (Nat.le_of_ble_eq_true rfl)
  rw [lg_entry_eq]
  generalize (lg_sl ([.ref (u r0)]) ++ List.replicate (1 - (lg_sl ([.ref (u r0)])).length) Slot.unset).toArray = ls at hl ⊢
  have hl : lv_has ls 1 [(0, .ref (u r0))] := hl
  refine ow_named (fun QQ hQQ => ?_)
  generalize ([.ref (u r0)] : List Value).toArray = args at hts hT hQQ ⊢
  have hq : qm_X12_clear_0 K r0 z = some z1 := hq
  unfold qm_X12_clear_0 at hq
  suffices key : ∀ (H : Heap) (locs : List Loc), tw_M D vwCl mX q s.heap u z H locs → W p l e ({ frames := 0, cells := 0, slots := 0, locals := 0 } : Room) s m args below meth c H locs 0 0 QQ (F0 m 0 ls []) from key s.heap [] hM
  intro H locs hM
  refine lv_aload_n hx hb dmX12_clear_0 rfl (lv_at hl 0 rfl) ?_
  refine lv_iconst (v := 0) hx hb dmX12_clear_1 (by decide) ?_
  refine mp12_48 hx hb hT hown hK hM hU hr0 hq dmX12_clear_2 (fun z1 H locs hM hq => ?_)
  refine lv_aload_n hx hb dmX12_clear_5 rfl (lv_at hl 0 rfl) ?_
  refine lv_iconst (v := 0) hx hb dmX12_clear_6 (by decide) ?_
  refine mp12_52 hx hb hT hown hK hM hU hr0 hq dmX12_clear_7 (fun z2 H locs hM hq => ?_)
  refine lv_aload_n hx hb dmX12_clear_10 rfl (lv_at hl 0 rfl) ?_
  refine mg12_9 hx hb hT hown hK hM hr0 dmX12_clear_11 ?_
  refine lv_iconst (v := 0) hx hb dmX12_clear_14 (by decide) ?_
  refine lv_iconst (v := 0) hx hb dmX12_clear_15 (by decide) ?_
  refine tw_iast mX_ok hU hx hb hK hM (mrn_3 hr0) hq dmX12_clear_16 (fun z3 H locs hM hq => ?_)
  exact mw_vret hx hb hr hlocks hM hq hQQ dmX12_clear_17
theorem dmX12_add_0 : decode cX12_add 0 = .ok (.aload_n 0, 1) := by decide +kernel
theorem dmX12_add_1 : decode cX12_add 1 = .ok (.getfield 15, 3) := by decide +kernel
theorem dmX12_add_4 : decode cX12_add 4 = .ok (.aload_n 0, 1) := by decide +kernel
theorem dmX12_add_5 : decode cX12_add 5 = .ok (.getfield 48, 3) := by decide +kernel
theorem dmX12_add_8 : decode cX12_add 8 = .ok (.iload_n 1, 1) := by decide +kernel
theorem dmX12_add_9 : decode cX12_add 9 = .ok (.iastore, 1) := by decide +kernel
theorem dmX12_add_10 : decode cX12_add 10 = .ok (.aload_n 0, 1) := by decide +kernel
theorem dmX12_add_11 : decode cX12_add 11 = .ok (.getfield 18, 3) := by decide +kernel
theorem dmX12_add_14 : decode cX12_add 14 = .ok (.aload_n 0, 1) := by decide +kernel
theorem dmX12_add_15 : decode cX12_add 15 = .ok (.getfield 48, 3) := by decide +kernel
theorem dmX12_add_18 : decode cX12_add 18 = .ok (.iload_n 2, 1) := by decide +kernel
theorem dmX12_add_19 : decode cX12_add 19 = .ok (.iastore, 1) := by decide +kernel
theorem dmX12_add_20 : decode cX12_add 20 = .ok (.aload_n 0, 1) := by decide +kernel
theorem dmX12_add_21 : decode cX12_add 21 = .ok (.dup, 1) := by decide +kernel
theorem dmX12_add_22 : decode cX12_add 22 = .ok (.getfield 48, 3) := by decide +kernel
theorem dmX12_add_25 : decode cX12_add 25 = .ok (.iconst 1, 1) := by decide +kernel
theorem dmX12_add_26 : decode cX12_add 26 = .ok (.iadd, 1) := by decide +kernel
theorem dmX12_add_27 : decode cX12_add 27 = .ok (.putfield 48, 3) := by decide +kernel
theorem dmX12_add_30 : decode cX12_add 30 = .ok (.return_, 1) := by decide +kernel
def qm_X12_add_0 (K : Nat) (x1 : Int32) (x2 : Int32) (r0 : Nat) (z : ow_MS) : Option ow_MS :=
 rdF z (r0 + 1) fun v1 => wrI mX z (r0 + 4) v1 x1 fun z2 => rdF z2 (r0 + 1) fun v3 => wrI mX z2 (r0 + 5) v3 x2 fun z4 => rdF z4 (r0 + 1) fun v5 => wrF z4 (r0 + 1) (v5 + 1) fun z6 => some z6
def qe_X12_add (K : Nat) (r0 : Nat) (x1 : Int32) (x2 : Int32) (z : ow_MS) : Option ow_MS := qm_X12_add_0 K x1 x2 r0 z
abbrev wm_X12_add : List Cond := .code yX12_add cX12_add 3 none :: wM
theorem cd_X12_add : yX12_add.cls = RX12 ∧ yX12_add.cls ≠ "java/lang/invoke/MethodHandle" ∧ yX12_add.cls ≠ "java/lang/invoke/VarHandle" ∧ (parseMethodDescriptor yX12_add.desc).map (fun d => d.parameters.length) = some 2 := by decide +kernel
set_option maxHeartbeats 4000000 in
set_option maxRecDepth 100000 in
theorem km_X12_add (l : Launch) (D : va_G) (q : ow_Q5) (u : Nat → Nat) (hU : tw_inj mX u) (K : Nat) (r0 : Nat) (x1 : Int32) (x2 : Int32) (hr0 : mw_net r0) (z z1 : ow_MS) (hq : qe_X12_add K r0 x1 x2 z = some z1) : Met l yX12_add wm_X12_add ({ frames := 0, cells := 0, slots := 0, locals := 0 } : Room) (va_Pc [.ref (u r0), .int x1, .int x2] (mw_pre D q u z)) (va_Qv (fun (_ : Unit) => True) (fun _ t => va_P D vwCl (tw mX q u z1) t.heap) (tw_A mX u)) 0 0 (tw_A mX u) := by
  refine Met.ofW (cc := cX12_add) (maxL := 3) (ret := none) (by decide) rfl ?_
  intro p e s m args below meth c s₁ B hml hv
  obtain ⟨rfl, hP, hK, hN⟩ := hv
  have hx := B.exec
  have hb := B.bytes
  have hr := B.returns
  have hts := atoms_spec (ws := wm_X12_add) B.pre
  have hT : ∀ w ∈ wM, w.before ([.ref (u r0), .int x1, .int x2] : List Value).toArray s = true := fun w h => hts w (List.mem_cons_of_mem _ h)
  have hown : s.vm.findClass RX12 = some m.cls := findClass_of_methodNamed B.named
  have hlocks := B.notSynchronized
  have hM : tw_M D vwCl mX q s.heap u z s.heap [] := ⟨hP, va_S.rf⟩
  have hl := lv_entry ([.ref (u r0), .int x1, .int x2]) (n := 3) (Nat.le_of_ble_eq_true rfl)
  rw [lg_entry_eq]
  generalize (lg_sl ([.ref (u r0), .int x1, .int x2]) ++ List.replicate (3 - (lg_sl ([.ref (u r0), .int x1, .int x2])).length) Slot.unset).toArray = ls at hl ⊢
  have hl : lv_has ls 3 [(0, .ref (u r0)), (1, .int x1), (2, .int x2)] := hl
  refine ow_named (fun QQ hQQ => ?_)
  generalize ([.ref (u r0), .int x1, .int x2] : List Value).toArray = args at hts hT hQQ ⊢
  have hq : qm_X12_add_0 K x1 x2 r0 z = some z1 := hq
  unfold qm_X12_add_0 at hq
  suffices key : ∀ (H : Heap) (locs : List Loc), tw_M D vwCl mX q s.heap u z H locs → W p l e ({ frames := 0, cells := 0, slots := 0, locals := 0 } : Room) s m args below meth c H locs 0 0 QQ (F0 m 0 ls []) from key s.heap [] hM
  intro H locs hM
  refine lv_aload_n hx hb dmX12_add_0 rfl (lv_at hl 0 rfl) ?_
  refine mg12_15 hx hb hT hown hK hM hr0 dmX12_add_1 ?_
  refine lv_aload_n hx hb dmX12_add_4 rfl (lv_at hl 0 rfl) ?_
  refine mg12_48 hx hb hT hown hK hM hr0 hq dmX12_add_5 (fun v1 hq => ?_)
  refine lv_iload_n hx hb dmX12_add_8 rfl (lv_at hl 1 rfl) ?_
  refine tw_iast mX_ok hU hx hb hK hM (mrn_4 hr0) hq dmX12_add_9 (fun z2 H locs hM hq => ?_)
  refine lv_aload_n hx hb dmX12_add_10 rfl (lv_at hl 0 rfl) ?_
  refine mg12_18 hx hb hT hown hK hM hr0 dmX12_add_11 ?_
  refine lv_aload_n hx hb dmX12_add_14 rfl (lv_at hl 0 rfl) ?_
  refine mg12_48 hx hb hT hown hK hM hr0 hq dmX12_add_15 (fun v3 hq => ?_)
  refine lv_iload_n hx hb dmX12_add_18 rfl (lv_at hl 2 rfl) ?_
  refine tw_iast mX_ok hU hx hb hK hM (mrn_5 hr0) hq dmX12_add_19 (fun z4 H locs hM hq => ?_)
  refine lv_aload_n hx hb dmX12_add_20 rfl (lv_at hl 0 rfl) ?_
  refine lv_dup hx hb dmX12_add_21 rfl ?_
  refine mg12_48 hx hb hT hown hK hM hr0 hq dmX12_add_22 (fun v5 hq => ?_)
  refine lv_iconst (v := 1) hx hb dmX12_add_25 (by decide) ?_
  refine lv_iadd hx hb dmX12_add_26 ?_
  refine mp12_48 hx hb hT hown hK hM hU hr0 hq dmX12_add_27 (fun z6 H locs hM hq => ?_)
  exact mw_vret hx hb hr hlocks hM hq hQQ dmX12_add_30
theorem dmX12_end_0 : decode cX12_end 0 = .ok (.aload_n 0, 1) := by decide +kernel
theorem dmX12_end_1 : decode cX12_end 1 = .ok (.dup, 1) := by decide +kernel
theorem dmX12_end_2 : decode cX12_end 2 = .ok (.getfield 52, 3) := by decide +kernel
theorem dmX12_end_5 : decode cX12_end 5 = .ok (.iconst 1, 1) := by decide +kernel
theorem dmX12_end_6 : decode cX12_end 6 = .ok (.iadd, 1) := by decide +kernel
theorem dmX12_end_7 : decode cX12_end 7 = .ok (.putfield 52, 3) := by decide +kernel
theorem dmX12_end_10 : decode cX12_end 10 = .ok (.aload_n 0, 1) := by decide +kernel
theorem dmX12_end_11 : decode cX12_end 11 = .ok (.getfield 9, 3) := by decide +kernel
theorem dmX12_end_14 : decode cX12_end 14 = .ok (.aload_n 0, 1) := by decide +kernel
theorem dmX12_end_15 : decode cX12_end 15 = .ok (.getfield 52, 3) := by decide +kernel
theorem dmX12_end_18 : decode cX12_end 18 = .ok (.aload_n 0, 1) := by decide +kernel
theorem dmX12_end_19 : decode cX12_end 19 = .ok (.getfield 48, 3) := by decide +kernel
theorem dmX12_end_22 : decode cX12_end 22 = .ok (.iastore, 1) := by decide +kernel
theorem dmX12_end_23 : decode cX12_end 23 = .ok (.return_, 1) := by decide +kernel
def qm_X12_end_0 (K : Nat) (r0 : Nat) (z : ow_MS) : Option ow_MS :=
 rdF z (r0 + 2) fun v1 => wrF z (r0 + 2) (v1 + 1) fun z2 => rdF z2 (r0 + 2) fun v3 => rdF z2 (r0 + 1) fun v4 => wrI mX z2 (r0 + 3) v3 v4 fun z5 => some z5
def qe_X12_end (K : Nat) (r0 : Nat) (z : ow_MS) : Option ow_MS := qm_X12_end_0 K r0 z
abbrev wm_X12_end : List Cond := .code yX12_end cX12_end 1 none :: wM
theorem cd_X12_end : yX12_end.cls = RX12 ∧ yX12_end.cls ≠ "java/lang/invoke/MethodHandle" ∧ yX12_end.cls ≠ "java/lang/invoke/VarHandle" ∧ (parseMethodDescriptor yX12_end.desc).map (fun d => d.parameters.length) = some 0 := by decide +kernel
set_option maxHeartbeats 4000000 in
set_option maxRecDepth 100000 in
theorem km_X12_end (l : Launch) (D : va_G) (q : ow_Q5) (u : Nat → Nat) (hU : tw_inj mX u) (K : Nat) (r0 : Nat) (hr0 : mw_net r0) (z z1 : ow_MS) (hq : qe_X12_end K r0 z = some z1) : Met l yX12_end wm_X12_end ({ frames := 0, cells := 0, slots := 0, locals := 0 } : Room) (va_Pc [.ref (u r0)] (mw_pre D q u z)) (va_Qv (fun (_ : Unit) => True) (fun _ t => va_P D vwCl (tw mX q u z1) t.heap) (tw_A mX u)) 0 0 (tw_A mX u) := by
  refine Met.ofW (cc := cX12_end) (maxL := 1) (ret := none) (by decide) rfl ?_
  intro p e s m args below meth c s₁ B hml hv
  obtain ⟨rfl, hP, hK, hN⟩ := hv
  have hx := B.exec
  have hb := B.bytes
  have hr := B.returns
  have hts := atoms_spec (ws := wm_X12_end) B.pre
  have hT : ∀ w ∈ wM, w.before ([.ref (u r0)] : List Value).toArray s = true := fun w h => hts w (List.mem_cons_of_mem _ h)
  have hown : s.vm.findClass RX12 = some m.cls := findClass_of_methodNamed B.named
  have hlocks := B.notSynchronized
  have hM : tw_M D vwCl mX q s.heap u z s.heap [] := ⟨hP, va_S.rf⟩
  have hl := lv_entry ([.ref (u r0)]) (n := 1) (Nat.le_of_ble_eq_true rfl)
  rw [lg_entry_eq]
  generalize (lg_sl ([.ref (u r0)]) ++ List.replicate (1 - (lg_sl ([.ref (u r0)])).length) Slot.unset).toArray = ls at hl ⊢
  have hl : lv_has ls 1 [(0, .ref (u r0))] := hl
  refine ow_named (fun QQ hQQ => ?_)
  generalize ([.ref (u r0)] : List Value).toArray = args at hts hT hQQ ⊢
  have hq : qm_X12_end_0 K r0 z = some z1 := hq
  unfold qm_X12_end_0 at hq
  suffices key : ∀ (H : Heap) (locs : List Loc), tw_M D vwCl mX q s.heap u z H locs → W p l e ({ frames := 0, cells := 0, slots := 0, locals := 0 } : Room) s m args below meth c H locs 0 0 QQ (F0 m 0 ls []) from key s.heap [] hM
  intro H locs hM
  refine lv_aload_n hx hb dmX12_end_0 rfl (lv_at hl 0 rfl) ?_
  refine lv_dup hx hb dmX12_end_1 rfl ?_
  refine mg12_52 hx hb hT hown hK hM hr0 hq dmX12_end_2 (fun v1 hq => ?_)
  refine lv_iconst (v := 1) hx hb dmX12_end_5 (by decide) ?_
  refine lv_iadd hx hb dmX12_end_6 ?_
  refine mp12_52 hx hb hT hown hK hM hU hr0 hq dmX12_end_7 (fun z2 H locs hM hq => ?_)
  refine lv_aload_n hx hb dmX12_end_10 rfl (lv_at hl 0 rfl) ?_
  refine mg12_9 hx hb hT hown hK hM hr0 dmX12_end_11 ?_
  refine lv_aload_n hx hb dmX12_end_14 rfl (lv_at hl 0 rfl) ?_
  refine mg12_52 hx hb hT hown hK hM hr0 hq dmX12_end_15 (fun v3 hq => ?_)
  refine lv_aload_n hx hb dmX12_end_18 rfl (lv_at hl 0 rfl) ?_
  refine mg12_48 hx hb hT hown hK hM hr0 hq dmX12_end_19 (fun v4 hq => ?_)
  refine tw_iast mX_ok hU hx hb hK hM (mrn_3 hr0) hq dmX12_end_22 (fun z5 H locs hM hq => ?_)
  exact mw_vret hx hb hr hlocks hM hq hQQ dmX12_end_23
theorem dmX12_signsOf_0 : decode cX12_signsOf 0 = .ok (.iconst 0, 1) := by decide +kernel
theorem dmX12_signsOf_1 : decode cX12_signsOf 1 = .ok (.istore_n 2, 1) := by decide +kernel
theorem dmX12_signsOf_2 : decode cX12_signsOf 2 = .ok (.iload_n 2, 1) := by decide +kernel
theorem dmX12_signsOf_3 : decode cX12_signsOf 3 = .ok (.bipush 40, 2) := by decide +kernel
theorem dmX12_signsOf_5 : decode cX12_signsOf 5 = .ok (.if_icmp .ge 21, 3) := by decide +kernel
theorem dmX12_signsOf_8 : decode cX12_signsOf 8 = .ok (.aload_n 0, 1) := by decide +kernel
theorem dmX12_signsOf_9 : decode cX12_signsOf 9 = .ok (.getfield 21, 3) := by decide +kernel
theorem dmX12_signsOf_12 : decode cX12_signsOf 12 = .ok (.iload_n 2, 1) := by decide +kernel
theorem dmX12_signsOf_13 : decode cX12_signsOf 13 = .ok (.aload_n 1, 1) := by decide +kernel
theorem dmX12_signsOf_14 : decode cX12_signsOf 14 = .ok (.getfield 21, 3) := by decide +kernel
theorem dmX12_signsOf_17 : decode cX12_signsOf 17 = .ok (.iload_n 2, 1) := by decide +kernel
theorem dmX12_signsOf_18 : decode cX12_signsOf 18 = .ok (.iaload, 1) := by decide +kernel
theorem dmX12_signsOf_19 : decode cX12_signsOf 19 = .ok (.iastore, 1) := by decide +kernel
theorem dmX12_signsOf_20 : decode cX12_signsOf 20 = .ok (.iinc 2 1, 3) := by decide +kernel
theorem dmX12_signsOf_23 : decode cX12_signsOf 23 = .ok (.goto (-21), 3) := by decide +kernel
theorem dmX12_signsOf_26 : decode cX12_signsOf 26 = .ok (.return_, 1) := by decide +kernel
def qm_X12_signsOf_0 (K : Nat) (go : Nat → Int32 → Nat → Nat → ow_MS → Option ow_MS) (x2 : Int32) (r0 : Nat) (r1 : Nat) (z : ow_MS) : Option ow_MS :=
 go 1 0 r0 r1 z
def qm_X12_signsOf_1 (K : Nat) (go : Nat → Int32 → Nat → Nat → ow_MS → Option ow_MS) (x2 : Int32) (r0 : Nat) (r1 : Nat) (z : ow_MS) : Option ow_MS :=
 (if 40 ≤ x2 then some z
 else rdI mX z (r1 + 6) x2 fun v1 => wrI mX z (r0 + 6) x2 v1 fun z2 => go 1 (x2 + 1) r0 r1 z2)
def qb_X12_signsOf (K : Nat) (go : Nat → Int32 → Nat → Nat → ow_MS → Option ow_MS) (L : Nat) (x2 : Int32) (r0 : Nat) (r1 : Nat) (z : ow_MS) : Option ow_MS := match L with
  | 0 => qm_X12_signsOf_0 K go x2 r0 r1 z
  | 1 => qm_X12_signsOf_1 K go x2 r0 r1 z
  | _ => none
def q_X12_signsOf (K : Nat) : Nat → Nat → Int32 → Nat → Nat → ow_MS → Option ow_MS
  | 0 => fun _ _ _ _ _ => none
  | k + 1 => qb_X12_signsOf K (q_X12_signsOf K k)
def qe_X12_signsOf (K : Nat) (r0 : Nat) (r1 : Nat) (z : ow_MS) : Option ow_MS := q_X12_signsOf K K 0 0 r0 r1 z
abbrev wm_X12_signsOf : List Cond := .code yX12_signsOf cX12_signsOf 3 none :: wM
theorem cd_X12_signsOf : yX12_signsOf.cls = RX12 ∧ yX12_signsOf.cls ≠ "java/lang/invoke/MethodHandle" ∧ yX12_signsOf.cls ≠ "java/lang/invoke/VarHandle" ∧ (parseMethodDescriptor yX12_signsOf.desc).map (fun d => d.parameters.length) = some 1 := by decide +kernel
set_option maxHeartbeats 4000000 in
set_option maxRecDepth 100000 in
theorem km_X12_signsOf (l : Launch) (D : va_G) (q : ow_Q5) (u : Nat → Nat) (hU : tw_inj mX u) (K : Nat) (r0 : Nat) (r1 : Nat) (hr0 : mw_net r0) (hr1 : mw_net r1) (z z1 : ow_MS) (hq : qe_X12_signsOf K r0 r1 z = some z1) : Met l yX12_signsOf wm_X12_signsOf ({ frames := 0, cells := 0, slots := 0, locals := 0 } : Room) (va_Pc [.ref (u r0), .ref (u r1)] (mw_pre D q u z)) (va_Qv (fun (_ : Unit) => True) (fun _ t => va_P D vwCl (tw mX q u z1) t.heap) (tw_A mX u)) 0 0 (tw_A mX u) := by
  refine Met.ofW (cc := cX12_signsOf) (maxL := 3) (ret := none) (by decide) rfl ?_
  intro p e s m args below meth c s₁ B hml hv
  obtain ⟨rfl, hP, hK, hN⟩ := hv
  have hx := B.exec
  have hb := B.bytes
  have hr := B.returns
  have hts := atoms_spec (ws := wm_X12_signsOf) B.pre
  have hT : ∀ w ∈ wM, w.before ([.ref (u r0), .ref (u r1)] : List Value).toArray s = true := fun w h => hts w (List.mem_cons_of_mem _ h)
  have hown : s.vm.findClass RX12 = some m.cls := findClass_of_methodNamed B.named
  have hlocks := B.notSynchronized
  have hM : tw_M D vwCl mX q s.heap u z s.heap [] := ⟨hP, va_S.rf⟩
  have hl := lv_entry ([.ref (u r0), .ref (u r1)]) (n := 3) (Nat.le_of_ble_eq_true rfl)
  rw [lg_entry_eq]
  generalize (lg_sl ([.ref (u r0), .ref (u r1)]) ++ List.replicate (3 - (lg_sl ([.ref (u r0), .ref (u r1)])).length) Slot.unset).toArray = ls at hl ⊢
  have hl : lv_has ls 3 [(0, .ref (u r0)), (1, .ref (u r1))] := hl
  refine ow_named (fun QQ hQQ => ?_)
  generalize ([.ref (u r0), .ref (u r1)] : List Value).toArray = args at hts hT hQQ ⊢
  have key : ∀ k : Nat, (∀ (x2 : Int32) (r0 : Nat) (r1 : Nat) (z : ow_MS) (H : Heap) (locs : List Loc) (ls : Array Slot), mw_net r0 → mw_net r1 → tw_M D vwCl mX q s.heap u z H locs → lv_has ls 3 [(0, .ref (u r0)), (1, .ref (u r1))] → q_X12_signsOf K k 0 x2 r0 r1 z = some z1 → W p l e ({ frames := 0, cells := 0, slots := 0, locals := 0 } : Room) s m args below meth c H locs 0 0 QQ (F0 m 0 ls [])) ∧ (∀ (x2 : Int32) (r0 : Nat) (r1 : Nat) (z : ow_MS) (H : Heap) (locs : List Loc) (ls : Array Slot), mw_net r0 → mw_net r1 → tw_M D vwCl mX q s.heap u z H locs → lv_has ls 3 [(0, .ref (u r0)), (1, .ref (u r1)), (2, .int x2)] → q_X12_signsOf K k 1 x2 r0 r1 z = some z1 → W p l e ({ frames := 0, cells := 0, slots := 0, locals := 0 } : Room) s m args below meth c H locs 0 0 QQ (F0 m 2 ls [])) := by
    intro k
    induction k with
    | zero => exact ⟨fun _ _ _ _ _ _ _ _ _ _ _ hq => tw_no hq, fun _ _ _ _ _ _ _ _ _ _ _ hq => tw_no hq⟩
    | succ k ih =>
      obtain ⟨ih_0, ih_1⟩ := ih
      refine ⟨?_, ?_⟩
      · intro x2 r0 r1 z H locs ls hr0 hr1 hM hl hq
        have hq : qm_X12_signsOf_0 K (q_X12_signsOf K k) x2 r0 r1 z = some z1 := hq
        unfold qm_X12_signsOf_0 at hq
        refine lv_iconst (v := 0) hx hb dmX12_signsOf_0 (by decide) ?_
        refine lv_istore_n (lv' := [(2, .int 0), (0, .ref (u r0)), (1, .ref (u r1))]) hx hb dmX12_signsOf_1 rfl hl (by decide) rfl (fun ls hl => ?_)
        exact ih_1 0 r0 r1 z H locs ls hr0 hr1 hM (lv_sub hl [1, 2, 0] rfl) hq
      · intro x2 r0 r1 z H locs ls hr0 hr1 hM hl hq
        have hq : qm_X12_signsOf_1 K (q_X12_signsOf K k) x2 r0 r1 z = some z1 := hq
        unfold qm_X12_signsOf_1 at hq
        refine lv_iload_n hx hb dmX12_signsOf_2 rfl (lv_at hl 2 rfl) ?_
        refine lv_bipush (v := 40) hx hb dmX12_signsOf_3 (by decide) ?_
        refine lv_icmp_ge (tgt := 26) hx hb dmX12_signsOf_5 (by decide) (fun hc => ?_) (fun hc => ?_)
        · have hq := tw_it hq hc
          exact mw_vret hx hb hr hlocks hM hq hQQ dmX12_signsOf_26
        · have hq := tw_if hq hc
          refine lv_aload_n hx hb dmX12_signsOf_8 rfl (lv_at hl 0 rfl) ?_
          refine mg12_21 hx hb hT hown hK hM hr0 dmX12_signsOf_9 ?_
          refine lv_iload_n hx hb dmX12_signsOf_12 rfl (lv_at hl 2 rfl) ?_
          refine lv_aload_n hx hb dmX12_signsOf_13 rfl (lv_at hl 1 rfl) ?_
          refine mg12_21 hx hb hT hown hK hM hr1 dmX12_signsOf_14 ?_
          refine lv_iload_n hx hb dmX12_signsOf_17 rfl (lv_at hl 2 rfl) ?_
          refine tw_iald mX_ok hx hb hK hM (mrn_6 hr1) hq dmX12_signsOf_18 (fun v1 hq => ?_)
          refine tw_iast mX_ok hU hx hb hK hM (mrn_6 hr0) hq dmX12_signsOf_19 (fun z2 H locs hM hq => ?_)
          refine lv_iinc (v := (x2 + 1)) (lv' := [(2, .int (x2 + 1)), (0, .ref (u r0)), (1, .ref (u r1))]) hx hb dmX12_signsOf_20 hl (k := 2) rfl rfl (by decide) rfl (fun ls hl => ?_)
          refine lv_goto (tgt := 2) hx hb dmX12_signsOf_23 (by decide) ?_
          exact ih_1 (x2 + 1) r0 r1 z2 H locs ls hr0 hr1 hM (lv_sub hl [1, 2, 0] rfl) hq
  exact (key K).1 0 r0 r1 z s.heap [] ls hr0 hr1 hM (lv_sub hl [0, 1] rfl) hq
theorem dmX12_copy_0 : decode cX12_copy 0 = .ok (.aload_n 0, 1) := dw_at cX12_copy_k0 (p := 0) rfl (by decide +kernel)
theorem dmX12_copy_1 : decode cX12_copy 1 = .ok (.invokevirtual 55, 3) := dw_at cX12_copy_k0 (p := 1) rfl (by decide +kernel)
theorem dmX12_copy_4 : decode cX12_copy 4 = .ok (.iconst 0, 1) := dw_at cX12_copy_k0 (p := 4) rfl (by decide +kernel)
theorem dmX12_copy_5 : decode cX12_copy 5 = .ok (.istore_n 2, 1) := dw_at cX12_copy_k0 (p := 5) rfl (by decide +kernel)
theorem dmX12_copy_6 : decode cX12_copy 6 = .ok (.iload_n 2, 1) := dw_at cX12_copy_k0 (p := 6) rfl (by decide +kernel)
theorem dmX12_copy_7 : decode cX12_copy 7 = .ok (.aload_n 1, 1) := dw_at cX12_copy_k0 (p := 7) rfl (by decide +kernel)
theorem dmX12_copy_8 : decode cX12_copy 8 = .ok (.getfield 52, 3) := dw_at cX12_copy_k0 (p := 8) rfl (by decide +kernel)
theorem dmX12_copy_11 : decode cX12_copy 11 = .ok (.if_icmp .ge 54, 3) := dw_at cX12_copy_k0 (p := 11) rfl (by decide +kernel)
theorem dmX12_copy_14 : decode cX12_copy 14 = .ok (.aload_n 1, 1) := dw_at cX12_copy_k0 (p := 14) rfl (by decide +kernel)
theorem dmX12_copy_15 : decode cX12_copy 15 = .ok (.getfield 9, 3) := dw_at cX12_copy_k0 (p := 15) rfl (by decide +kernel)
theorem dmX12_copy_18 : decode cX12_copy 18 = .ok (.iload_n 2, 1) := dw_at cX12_copy_k0 (p := 18) rfl (by decide +kernel)
theorem dmX12_copy_19 : decode cX12_copy 19 = .ok (.iaload, 1) := dw_at cX12_copy_k0 (p := 19) rfl (by decide +kernel)
theorem dmX12_copy_20 : decode cX12_copy 20 = .ok (.istore_n 3, 1) := dw_at cX12_copy_k0 (p := 20) rfl (by decide +kernel)
theorem dmX12_copy_21 : decode cX12_copy 21 = .ok (.iload_n 3, 1) := dw_at cX12_copy_k0 (p := 21) rfl (by decide +kernel)
theorem dmX12_copy_22 : decode cX12_copy 22 = .ok (.aload_n 1, 1) := dw_at cX12_copy_k0 (p := 22) rfl (by decide +kernel)
theorem dmX12_copy_23 : decode cX12_copy 23 = .ok (.getfield 9, 3) := dw_at cX12_copy_k0 (p := 23) rfl (by decide +kernel)
theorem dmX12_copy_26 : decode cX12_copy 26 = .ok (.iload_n 2, 1) := dw_at cX12_copy_k1 (p := 0) rfl (by decide +kernel)
theorem dmX12_copy_27 : decode cX12_copy 27 = .ok (.iconst 1, 1) := dw_at cX12_copy_k1 (p := 1) rfl (by decide +kernel)
theorem dmX12_copy_28 : decode cX12_copy 28 = .ok (.iadd, 1) := dw_at cX12_copy_k1 (p := 2) rfl (by decide +kernel)
theorem dmX12_copy_29 : decode cX12_copy 29 = .ok (.iaload, 1) := dw_at cX12_copy_k1 (p := 3) rfl (by decide +kernel)
theorem dmX12_copy_30 : decode cX12_copy 30 = .ok (.if_icmp .ge 25, 3) := dw_at cX12_copy_k1 (p := 4) rfl (by decide +kernel)
theorem dmX12_copy_33 : decode cX12_copy 33 = .ok (.aload_n 0, 1) := dw_at cX12_copy_k1 (p := 7) rfl (by decide +kernel)
theorem dmX12_copy_34 : decode cX12_copy 34 = .ok (.aload_n 1, 1) := dw_at cX12_copy_k1 (p := 8) rfl (by decide +kernel)
theorem dmX12_copy_35 : decode cX12_copy 35 = .ok (.getfield 15, 3) := dw_at cX12_copy_k1 (p := 9) rfl (by decide +kernel)
theorem dmX12_copy_38 : decode cX12_copy 38 = .ok (.iload_n 3, 1) := dw_at cX12_copy_k1 (p := 12) rfl (by decide +kernel)
theorem dmX12_copy_39 : decode cX12_copy 39 = .ok (.iaload, 1) := dw_at cX12_copy_k1 (p := 13) rfl (by decide +kernel)
theorem dmX12_copy_40 : decode cX12_copy 40 = .ok (.aload_n 1, 1) := dw_at cX12_copy_k1 (p := 14) rfl (by decide +kernel)
theorem dmX12_copy_41 : decode cX12_copy 41 = .ok (.getfield 18, 3) := dw_at cX12_copy_k1 (p := 15) rfl (by decide +kernel)
theorem dmX12_copy_44 : decode cX12_copy 44 = .ok (.iload_n 3, 1) := dw_at cX12_copy_k1 (p := 18) rfl (by decide +kernel)
theorem dmX12_copy_45 : decode cX12_copy 45 = .ok (.iaload, 1) := dw_at cX12_copy_k1 (p := 19) rfl (by decide +kernel)
theorem dmX12_copy_46 : decode cX12_copy 46 = .ok (.invokevirtual 58, 3) := dw_at cX12_copy_k1 (p := 20) rfl (by decide +kernel)
theorem dmX12_copy_49 : decode cX12_copy 49 = .ok (.iinc 3 1, 3) := dw_at cX12_copy_k1 (p := 23) rfl (by decide +kernel)
theorem dmX12_copy_52 : decode cX12_copy 52 = .ok (.goto (-31), 3) := dw_at cX12_copy_k2 (p := 0) rfl (by decide +kernel)
theorem dmX12_copy_55 : decode cX12_copy 55 = .ok (.aload_n 0, 1) := dw_at cX12_copy_k2 (p := 3) rfl (by decide +kernel)
theorem dmX12_copy_56 : decode cX12_copy 56 = .ok (.invokevirtual 62, 3) := dw_at cX12_copy_k2 (p := 4) rfl (by decide +kernel)
theorem dmX12_copy_59 : decode cX12_copy 59 = .ok (.iinc 2 1, 3) := dw_at cX12_copy_k2 (p := 7) rfl (by decide +kernel)
theorem dmX12_copy_62 : decode cX12_copy 62 = .ok (.goto (-56), 3) := dw_at cX12_copy_k2 (p := 10) rfl (by decide +kernel)
theorem dmX12_copy_65 : decode cX12_copy 65 = .ok (.aload_n 0, 1) := dw_at cX12_copy_k2 (p := 13) rfl (by decide +kernel)
theorem dmX12_copy_66 : decode cX12_copy 66 = .ok (.aload_n 1, 1) := dw_at cX12_copy_k2 (p := 14) rfl (by decide +kernel)
theorem dmX12_copy_67 : decode cX12_copy 67 = .ok (.invokevirtual 65, 3) := dw_at cX12_copy_k2 (p := 15) rfl (by decide +kernel)
theorem dmX12_copy_70 : decode cX12_copy 70 = .ok (.return_, 1) := dw_at cX12_copy_k2 (p := 18) rfl (by decide +kernel)
def qm_X12_copy_0 (K : Nat) (go : Nat → Int32 → Int32 → Nat → Nat → ow_MS → Option ow_MS) (x2 : Int32) (x3 : Int32) (r0 : Nat) (r1 : Nat) (z : ow_MS) : Option ow_MS :=
 cs0 (qe_X12_clear K r0 z) fun z1 => go 1 0 0 r0 r1 z1
def qm_X12_copy_1 (K : Nat) (go : Nat → Int32 → Int32 → Nat → Nat → ow_MS → Option ow_MS) (x2 : Int32) (x3 : Int32) (r0 : Nat) (r1 : Nat) (z : ow_MS) : Option ow_MS :=
 rdF z (r1 + 2) fun v2 => (if v2 ≤ x2 then cs0 (qe_X12_signsOf K r0 r1 z) fun z3 => some z3
 else rdI mX z (r1 + 3) x2 fun v4 => go 2 x2 v4 r0 r1 z)
def qm_X12_copy_2 (K : Nat) (go : Nat → Int32 → Int32 → Nat → Nat → ow_MS → Option ow_MS) (x2 : Int32) (x3 : Int32) (r0 : Nat) (r1 : Nat) (z : ow_MS) : Option ow_MS :=
 rdI mX z (r1 + 3) (x2 + 1) fun v5 => (if v5 ≤ x3 then cs0 (qe_X12_end K r0 z) fun z6 => go 1 (x2 + 1) 0 r0 r1 z6
 else rdI mX z (r1 + 4) x3 fun v7 => rdI mX z (r1 + 5) x3 fun v8 => cs0 (qe_X12_add K r0 v7 v8 z) fun z9 => go 2 x2 (x3 + 1) r0 r1 z9)
def qb_X12_copy (K : Nat) (go : Nat → Int32 → Int32 → Nat → Nat → ow_MS → Option ow_MS) (L : Nat) (x2 : Int32) (x3 : Int32) (r0 : Nat) (r1 : Nat) (z : ow_MS) : Option ow_MS := match L with
  | 0 => qm_X12_copy_0 K go x2 x3 r0 r1 z
  | 1 => qm_X12_copy_1 K go x2 x3 r0 r1 z
  | 2 => qm_X12_copy_2 K go x2 x3 r0 r1 z
  | _ => none
def q_X12_copy (K : Nat) : Nat → Nat → Int32 → Int32 → Nat → Nat → ow_MS → Option ow_MS
  | 0 => fun _ _ _ _ _ _ => none
  | k + 1 => qb_X12_copy K (q_X12_copy K k)
def qe_X12_copy (K : Nat) (r0 : Nat) (r1 : Nat) (z : ow_MS) : Option ow_MS := q_X12_copy K K 0 0 0 r0 r1 z
abbrev wm_X12_copy : List Cond := .code yX12_copy cX12_copy 4 none :: wM
theorem cd_X12_copy : yX12_copy.cls = RX12 ∧ yX12_copy.cls ≠ "java/lang/invoke/MethodHandle" ∧ yX12_copy.cls ≠ "java/lang/invoke/VarHandle" ∧ (parseMethodDescriptor yX12_copy.desc).map (fun d => d.parameters.length) = some 1 := by decide +kernel
set_option maxHeartbeats 4000000 in
set_option maxRecDepth 100000 in
theorem km_X12_copy (l : Launch) (D : va_G) (q : ow_Q5) (u : Nat → Nat) (hU : tw_inj mX u) (K : Nat) (r0 : Nat) (r1 : Nat) (hr0 : mw_net r0) (hr1 : mw_net r1) (z z1 : ow_MS) (hq : qe_X12_copy K r0 r1 z = some z1) : Met l yX12_copy wm_X12_copy ({ frames := 1, cells := 0, slots := 0, locals := 22 } : Room) (va_Pc [.ref (u r0), .ref (u r1)] (mw_pre D q u z)) (va_Qv (fun (_ : Unit) => True) (fun _ t => va_P D vwCl (tw mX q u z1) t.heap) (tw_A mX u)) 0 0 (tw_A mX u) := by
  refine Met.ofW (cc := cX12_copy) (maxL := 4) (ret := none) (by decide) rfl ?_
  intro p e s m args below meth c s₁ B hml hv
  obtain ⟨rfl, hP, hK, hN⟩ := hv
  have hx := B.exec
  have hb := B.bytes
  have hr := B.returns
  have hts := atoms_spec (ws := wm_X12_copy) B.pre
  have hT : ∀ w ∈ wM, w.before ([.ref (u r0), .ref (u r1)] : List Value).toArray s = true := fun w h => hts w (List.mem_cons_of_mem _ h)
  have hown : s.vm.findClass RX12 = some m.cls := findClass_of_methodNamed B.named
  have hlocks := B.notSynchronized
  have hM : tw_M D vwCl mX q s.heap u z s.heap [] := ⟨hP, va_S.rf⟩
  have hl := lv_entry ([.ref (u r0), .ref (u r1)]) (n := 4) (Nat.le_of_ble_eq_true rfl)
  rw [lg_entry_eq]
  generalize (lg_sl ([.ref (u r0), .ref (u r1)]) ++ List.replicate (4 - (lg_sl ([.ref (u r0), .ref (u r1)])).length) Slot.unset).toArray = ls at hl ⊢
  have hl : lv_has ls 4 [(0, .ref (u r0)), (1, .ref (u r1))] := hl
  refine ow_named (fun QQ hQQ => ?_)
  generalize ([.ref (u r0), .ref (u r1)] : List Value).toArray = args at hts hT hQQ ⊢
  have key : ∀ k : Nat, (∀ (x2 : Int32) (x3 : Int32) (r0 : Nat) (r1 : Nat) (z : ow_MS) (H : Heap) (locs : List Loc) (ls : Array Slot), mw_net r0 → mw_net r1 → tw_M D vwCl mX q s.heap u z H locs → lv_has ls 4 [(0, .ref (u r0)), (1, .ref (u r1))] → q_X12_copy K k 0 x2 x3 r0 r1 z = some z1 → W p l e ({ frames := 1, cells := 0, slots := 0, locals := 22 } : Room) s m args below meth c H locs 0 0 QQ (F0 m 0 ls [])) ∧ (∀ (x2 : Int32) (x3 : Int32) (r0 : Nat) (r1 : Nat) (z : ow_MS) (H : Heap) (locs : List Loc) (ls : Array Slot), mw_net r0 → mw_net r1 → tw_M D vwCl mX q s.heap u z H locs → lv_has ls 4 [(0, .ref (u r0)), (1, .ref (u r1)), (2, .int x2)] → q_X12_copy K k 1 x2 x3 r0 r1 z = some z1 → W p l e ({ frames := 1, cells := 0, slots := 0, locals := 22 } : Room) s m args below meth c H locs 0 0 QQ (F0 m 6 ls [])) ∧ (∀ (x2 : Int32) (x3 : Int32) (r0 : Nat) (r1 : Nat) (z : ow_MS) (H : Heap) (locs : List Loc) (ls : Array Slot), mw_net r0 → mw_net r1 → tw_M D vwCl mX q s.heap u z H locs → lv_has ls 4 [(0, .ref (u r0)), (1, .ref (u r1)), (2, .int x2), (3, .int x3)] → q_X12_copy K k 2 x2 x3 r0 r1 z = some z1 → W p l e ({ frames := 1, cells := 0, slots := 0, locals := 22 } : Room) s m args below meth c H locs 0 0 QQ (F0 m 21 ls [])) := by
    intro k
    induction k with
    | zero => exact ⟨fun _ _ _ _ _ _ _ _ _ _ _ _ hq => tw_no hq, fun _ _ _ _ _ _ _ _ _ _ _ _ hq => tw_no hq, fun _ _ _ _ _ _ _ _ _ _ _ _ hq => tw_no hq⟩
    | succ k ih =>
      obtain ⟨ih_0, ih_1, ih_2⟩ := ih
      refine ⟨?_, ?_, ?_⟩
      · intro x2 x3 r0 r1 z H locs ls hr0 hr1 hM hl hq
        have hq : qm_X12_copy_0 K (q_X12_copy K k) x2 x3 r0 r1 z = some z1 := hq
        unfold qm_X12_copy_0 at hq
        refine lv_aload_n hx hb dmX12_copy_0 rfl (lv_at hl 0 rfl) ?_
        obtain ⟨z1, hcq, hq⟩ := tw_cl0 hq
        refine tw_calv hM (va_runV (As := []) (rest := []) ⟨hx, hb, hml, hown, hts⟩ (km_X12_clear l D q u hU K r0 hr0 z z1 hcq) (cwV 0 hts (tw_gV wM_good wq_10 wq_11 wq_12 wq_13 wq_3) rfl rfl rfl cd_X12_clear ⟨(Nat.le_of_ble_eq_true rfl), (Nat.le_of_ble_eq_true rfl)⟩) (mw_preV hK hN hM (mo_n hr0) rfl) rfl rfl hl.1 rfl (lv_room (Nat.le_of_ble_eq_true rfl)) dmX12_copy_1 ⟨(Nat.le_of_ble_eq_true rfl), (Nat.le_of_ble_eq_true rfl)⟩) (fun H locs hM => ?_)
        refine lv_iconst (v := 0) hx hb dmX12_copy_4 (by decide) ?_
        refine lv_istore_n (lv' := [(2, .int 0), (0, .ref (u r0)), (1, .ref (u r1))]) hx hb dmX12_copy_5 rfl hl (by decide) rfl (fun ls hl => ?_)
        exact ih_1 0 0 r0 r1 z1 H locs ls hr0 hr1 hM (lv_sub hl [1, 2, 0] rfl) hq
      · intro x2 x3 r0 r1 z H locs ls hr0 hr1 hM hl hq
        have hq : qm_X12_copy_1 K (q_X12_copy K k) x2 x3 r0 r1 z = some z1 := hq
        unfold qm_X12_copy_1 at hq
        refine lv_iload_n hx hb dmX12_copy_6 rfl (lv_at hl 2 rfl) ?_
        refine lv_aload_n hx hb dmX12_copy_7 rfl (lv_at hl 1 rfl) ?_
        refine mg12_52 hx hb hT hown hK hM hr1 hq dmX12_copy_8 (fun v2 hq => ?_)
        refine lv_icmp_ge (tgt := 65) hx hb dmX12_copy_11 (by decide) (fun hc => ?_) (fun hc => ?_)
        · have hq := tw_it hq hc
          refine lv_aload_n hx hb dmX12_copy_65 rfl (lv_at hl 0 rfl) ?_
          refine lv_aload_n hx hb dmX12_copy_66 rfl (lv_at hl 1 rfl) ?_
          obtain ⟨z3, hcq, hq⟩ := tw_cl0 hq
          refine tw_calv hM (va_runV (As := [.ref (u r1)]) (rest := []) ⟨hx, hb, hml, hown, hts⟩ (km_X12_signsOf l D q u hU K r0 r1 hr0 hr1 z z3 hcq) (cwV 1 hts (tw_gV wM_good wq_20 wq_21 wq_22 wq_13 wq_9) rfl rfl rfl cd_X12_signsOf ⟨(Nat.le_of_ble_eq_true rfl), (Nat.le_of_ble_eq_true rfl)⟩) (mw_preV hK hN hM (mo_n hr0) rfl) rfl rfl hl.1 rfl (lv_room (Nat.le_of_ble_eq_true rfl)) dmX12_copy_67 ⟨(Nat.le_of_ble_eq_true rfl), (Nat.le_of_ble_eq_true rfl)⟩) (fun H locs hM => ?_)
          exact mw_vret hx hb hr hlocks hM hq hQQ dmX12_copy_70
        · have hq := tw_if hq hc
          refine lv_aload_n hx hb dmX12_copy_14 rfl (lv_at hl 1 rfl) ?_
          refine mg12_9 hx hb hT hown hK hM hr1 dmX12_copy_15 ?_
          refine lv_iload_n hx hb dmX12_copy_18 rfl (lv_at hl 2 rfl) ?_
          refine tw_iald mX_ok hx hb hK hM (mrn_3 hr1) hq dmX12_copy_19 (fun v4 hq => ?_)
          refine lv_istore_n (lv' := [(3, .int v4), (0, .ref (u r0)), (1, .ref (u r1)), (2, .int x2)]) hx hb dmX12_copy_20 rfl hl (by decide) rfl (fun ls hl => ?_)
          exact ih_2 x2 v4 r0 r1 z H locs ls hr0 hr1 hM (lv_sub hl [1, 2, 3, 0] rfl) hq
      · intro x2 x3 r0 r1 z H locs ls hr0 hr1 hM hl hq
        have hq : qm_X12_copy_2 K (q_X12_copy K k) x2 x3 r0 r1 z = some z1 := hq
        unfold qm_X12_copy_2 at hq
        refine lv_iload_n hx hb dmX12_copy_21 rfl (lv_at hl 3 rfl) ?_
        refine lv_aload_n hx hb dmX12_copy_22 rfl (lv_at hl 1 rfl) ?_
        refine mg12_9 hx hb hT hown hK hM hr1 dmX12_copy_23 ?_
        refine lv_iload_n hx hb dmX12_copy_26 rfl (lv_at hl 2 rfl) ?_
        refine lv_iconst (v := 1) hx hb dmX12_copy_27 (by decide) ?_
        refine lv_iadd hx hb dmX12_copy_28 ?_
        refine tw_iald mX_ok hx hb hK hM (mrn_3 hr1) hq dmX12_copy_29 (fun v5 hq => ?_)
        refine lv_icmp_ge (tgt := 55) hx hb dmX12_copy_30 (by decide) (fun hc => ?_) (fun hc => ?_)
        · have hq := tw_it hq hc
          refine lv_aload_n hx hb dmX12_copy_55 rfl (lv_at hl 0 rfl) ?_
          obtain ⟨z6, hcq, hq⟩ := tw_cl0 hq
          refine tw_calv hM (va_runV (As := []) (rest := []) ⟨hx, hb, hml, hown, hts⟩ (km_X12_end l D q u hU K r0 hr0 z z6 hcq) (cwV 0 hts (tw_gV wM_good wq_17 wq_18 wq_19 wq_13 wq_7) rfl rfl rfl cd_X12_end ⟨(Nat.le_of_ble_eq_true rfl), (Nat.le_of_ble_eq_true rfl)⟩) (mw_preV hK hN hM (mo_n hr0) rfl) rfl rfl hl.1 rfl (lv_room (Nat.le_of_ble_eq_true rfl)) dmX12_copy_56 ⟨(Nat.le_of_ble_eq_true rfl), (Nat.le_of_ble_eq_true rfl)⟩) (fun H locs hM => ?_)
          refine lv_iinc (v := (x2 + 1)) (lv' := [(2, .int (x2 + 1)), (0, .ref (u r0)), (1, .ref (u r1)), (3, .int x3)]) hx hb dmX12_copy_59 hl (k := 2) rfl rfl (by decide) rfl (fun ls hl => ?_)
          refine lv_goto (tgt := 6) hx hb dmX12_copy_62 (by decide) ?_
          exact ih_1 (x2 + 1) 0 r0 r1 z6 H locs ls hr0 hr1 hM (lv_sub hl [1, 2, 0] rfl) hq
        · have hq := tw_if hq hc
          refine lv_aload_n hx hb dmX12_copy_33 rfl (lv_at hl 0 rfl) ?_
          refine lv_aload_n hx hb dmX12_copy_34 rfl (lv_at hl 1 rfl) ?_
          refine mg12_15 hx hb hT hown hK hM hr1 dmX12_copy_35 ?_
          refine lv_iload_n hx hb dmX12_copy_38 rfl (lv_at hl 3 rfl) ?_
          refine tw_iald mX_ok hx hb hK hM (mrn_4 hr1) hq dmX12_copy_39 (fun v7 hq => ?_)
          refine lv_aload_n hx hb dmX12_copy_40 rfl (lv_at hl 1 rfl) ?_
          refine mg12_18 hx hb hT hown hK hM hr1 dmX12_copy_41 ?_
          refine lv_iload_n hx hb dmX12_copy_44 rfl (lv_at hl 3 rfl) ?_
          refine tw_iald mX_ok hx hb hK hM (mrn_5 hr1) hq dmX12_copy_45 (fun v8 hq => ?_)
          obtain ⟨z9, hcq, hq⟩ := tw_cl0 hq
          refine tw_calv hM (va_runV (As := [.int v7, .int v8]) (rest := []) ⟨hx, hb, hml, hown, hts⟩ (km_X12_add l D q u hU K r0 v7 v8 hr0 z z9 hcq) (cwV 2 hts (tw_gV wM_good wq_14 wq_15 wq_16 wq_13 wq_6) rfl rfl rfl cd_X12_add ⟨(Nat.le_of_ble_eq_true rfl), (Nat.le_of_ble_eq_true rfl)⟩) (mw_preV hK hN hM (mo_n hr0) rfl) rfl rfl hl.1 rfl (lv_room (Nat.le_of_ble_eq_true rfl)) dmX12_copy_46 ⟨(Nat.le_of_ble_eq_true rfl), (Nat.le_of_ble_eq_true rfl)⟩) (fun H locs hM => ?_)
          refine lv_iinc (v := (x3 + 1)) (lv' := [(3, .int (x3 + 1)), (0, .ref (u r0)), (1, .ref (u r1)), (2, .int x2)]) hx hb dmX12_copy_49 hl (k := 3) rfl rfl (by decide) rfl (fun ls hl => ?_)
          refine lv_goto (tgt := 21) hx hb dmX12_copy_52 (by decide) ?_
          exact ih_2 x2 (x3 + 1) r0 r1 z9 H locs ls hr0 hr1 hM (lv_sub hl [1, 2, 3, 0] rfl) hq
  exact (key K).1 0 0 r0 r1 z s.heap [] ls hr0 hr1 hM (lv_sub hl [0, 1] rfl) hq
theorem dmX12_isCircle_0 : decode cX12_isCircle 0 = .ok (.aload_n 0, 1) := by decide +kernel
theorem dmX12_isCircle_1 : decode cX12_isCircle 1 = .ok (.getfield 9, 3) := by decide +kernel
theorem dmX12_isCircle_4 : decode cX12_isCircle 4 = .ok (.iload_n 1, 1) := by decide +kernel
theorem dmX12_isCircle_5 : decode cX12_isCircle 5 = .ok (.iaload, 1) := by decide +kernel
theorem dmX12_isCircle_6 : decode cX12_isCircle 6 = .ok (.aload_n 0, 1) := by decide +kernel
theorem dmX12_isCircle_7 : decode cX12_isCircle 7 = .ok (.getfield 9, 3) := by decide +kernel
theorem dmX12_isCircle_10 : decode cX12_isCircle 10 = .ok (.iload_n 1, 1) := by decide +kernel
theorem dmX12_isCircle_11 : decode cX12_isCircle 11 = .ok (.iconst 1, 1) := by decide +kernel
theorem dmX12_isCircle_12 : decode cX12_isCircle 12 = .ok (.iadd, 1) := by decide +kernel
theorem dmX12_isCircle_13 : decode cX12_isCircle 13 = .ok (.iaload, 1) := by decide +kernel
theorem dmX12_isCircle_14 : decode cX12_isCircle 14 = .ok (.if_icmp .ne 7, 3) := by decide +kernel
theorem dmX12_isCircle_17 : decode cX12_isCircle 17 = .ok (.iconst 1, 1) := by decide +kernel
theorem dmX12_isCircle_18 : decode cX12_isCircle 18 = .ok (.goto 4, 3) := by decide +kernel
theorem dmX12_isCircle_21 : decode cX12_isCircle 21 = .ok (.iconst 0, 1) := by decide +kernel
theorem dmX12_isCircle_22 : decode cX12_isCircle 22 = .ok (.ireturn, 1) := by decide +kernel
def qm_X12_isCircle_0 (K : Nat) (x1 : Int32) (r0 : Nat) (z : ow_MS) : Option (Int32 × ow_MS) :=
 rdI mX z (r0 + 3) x1 fun v1 => rdI mX z (r0 + 3) (x1 + 1) fun v2 => (if v1 = v2 then okZ 1 (some (1, z))
 else okZ 0 (some (0, z)))
def qe_X12_isCircle (K : Nat) (r0 : Nat) (x1 : Int32) (z : ow_MS) : Option (Int32 × ow_MS) := qm_X12_isCircle_0 K x1 r0 z
abbrev wm_X12_isCircle : List Cond := .code yX12_isCircle cX12_isCircle 2 (some .boolean) :: wM
theorem cd_X12_isCircle : yX12_isCircle.cls = RX12 ∧ yX12_isCircle.cls ≠ "java/lang/invoke/MethodHandle" ∧ yX12_isCircle.cls ≠ "java/lang/invoke/VarHandle" ∧ (parseMethodDescriptor yX12_isCircle.desc).map (fun d => d.parameters.length) = some 1 := by decide +kernel
set_option maxHeartbeats 4000000 in
set_option maxRecDepth 100000 in
theorem km_X12_isCircle (l : Launch) (D : va_G) (q : ow_Q5) (u : Nat → Nat) (hU : tw_inj mX u) (K : Nat) (r0 : Nat) (x1 : Int32) (hr0 : mw_net r0) (z z1 : ow_MS) (r : Int32) (hq : qe_X12_isCircle K r0 x1 z = some (r, z1)) : Met l yX12_isCircle wm_X12_isCircle ({ frames := 0, cells := 0, slots := 0, locals := 0 } : Room) (va_Pc [.ref (u r0), .int x1] (mw_pre D q u z)) (va_Qi (fun x (_ : Unit) => x = r) (fun _ t => va_P D vwCl (tw mX q u z1) t.heap) (tw_A mX u)) 0 0 (tw_A mX u) := by
  refine Met.ofW (cc := cX12_isCircle) (maxL := 2) (ret := (some .boolean)) (by decide) rfl ?_
  intro p e s m args below meth c s₁ B hml hv
  obtain ⟨rfl, hP, hK, hN⟩ := hv
  have hx := B.exec
  have hb := B.bytes
  have hr := B.returns
  have hts := atoms_spec (ws := wm_X12_isCircle) B.pre
  have hT : ∀ w ∈ wM, w.before ([.ref (u r0), .int x1] : List Value).toArray s = true := fun w h => hts w (List.mem_cons_of_mem _ h)
  have hown : s.vm.findClass RX12 = some m.cls := findClass_of_methodNamed B.named
  have hlocks := B.notSynchronized
  have hM : tw_M D vwCl mX q s.heap u z s.heap [] := ⟨hP, va_S.rf⟩
  have hl := lv_entry ([.ref (u r0), .int x1]) (n := 2) (Nat.le_of_ble_eq_true rfl)
  rw [lg_entry_eq]
  generalize (lg_sl ([.ref (u r0), .int x1]) ++ List.replicate (2 - (lg_sl ([.ref (u r0), .int x1])).length) Slot.unset).toArray = ls at hl ⊢
  have hl : lv_has ls 2 [(0, .ref (u r0)), (1, .int x1)] := hl
  refine ow_named (fun QQ hQQ => ?_)
  generalize ([.ref (u r0), .int x1] : List Value).toArray = args at hts hT hQQ ⊢
  have hq : qm_X12_isCircle_0 K x1 r0 z = some (r, z1) := hq
  unfold qm_X12_isCircle_0 at hq
  suffices key : ∀ (H : Heap) (locs : List Loc), tw_M D vwCl mX q s.heap u z H locs → W p l e ({ frames := 0, cells := 0, slots := 0, locals := 0 } : Room) s m args below meth c H locs 0 0 QQ (F0 m 0 ls []) from key s.heap [] hM
  intro H locs hM
  refine lv_aload_n hx hb dmX12_isCircle_0 rfl (lv_at hl 0 rfl) ?_
  refine mg12_9 hx hb hT hown hK hM hr0 dmX12_isCircle_1 ?_
  refine lv_iload_n hx hb dmX12_isCircle_4 rfl (lv_at hl 1 rfl) ?_
  refine tw_iald mX_ok hx hb hK hM (mrn_3 hr0) hq dmX12_isCircle_5 (fun v1 hq => ?_)
  refine lv_aload_n hx hb dmX12_isCircle_6 rfl (lv_at hl 0 rfl) ?_
  refine mg12_9 hx hb hT hown hK hM hr0 dmX12_isCircle_7 ?_
  refine lv_iload_n hx hb dmX12_isCircle_10 rfl (lv_at hl 1 rfl) ?_
  refine lv_iconst (v := 1) hx hb dmX12_isCircle_11 (by decide) ?_
  refine lv_iadd hx hb dmX12_isCircle_12 ?_
  refine tw_iald mX_ok hx hb hK hM (mrn_3 hr0) hq dmX12_isCircle_13 (fun v2 hq => ?_)
  refine lv_icmp_ne (tgt := 21) hx hb dmX12_isCircle_14 (by decide) (fun hc => ?_) (fun hc => ?_)
  · have hq := tw_if hq hc
    refine lv_iconst (v := 0) hx hb dmX12_isCircle_21 (by decide) ?_
    obtain ⟨hz, hq⟩ := tw_gZ hq
    exact mw_zret hx hb hr hlocks hM hz hq hQQ dmX12_isCircle_22
  · have hq := tw_it hq hc
    refine lv_iconst (v := 1) hx hb dmX12_isCircle_17 (by decide) ?_
    refine lv_goto (tgt := 22) hx hb dmX12_isCircle_18 (by decide) ?_
    obtain ⟨hz, hq⟩ := tw_gZ hq
    exact mw_zret hx hb hr hlocks hM hz hq hQQ dmX12_isCircle_22
theorem dmX12_link_0 : decode cX12_link 0 = .ok (.iconst 0, 1) := dw_at cX12_link_k0 (p := 0) rfl (by decide +kernel)
theorem dmX12_link_1 : decode cX12_link 1 = .ok (.istore_n 1, 1) := dw_at cX12_link_k0 (p := 1) rfl (by decide +kernel)
theorem dmX12_link_2 : decode cX12_link 2 = .ok (.iload_n 1, 1) := dw_at cX12_link_k0 (p := 2) rfl (by decide +kernel)
theorem dmX12_link_3 : decode cX12_link 3 = .ok (.bipush 40, 2) := dw_at cX12_link_k0 (p := 3) rfl (by decide +kernel)
theorem dmX12_link_5 : decode cX12_link 5 = .ok (.if_icmp .ge 16, 3) := dw_at cX12_link_k0 (p := 5) rfl (by decide +kernel)
theorem dmX12_link_8 : decode cX12_link 8 = .ok (.aload_n 0, 1) := dw_at cX12_link_k0 (p := 8) rfl (by decide +kernel)
theorem dmX12_link_9 : decode cX12_link 9 = .ok (.getfield 36, 3) := dw_at cX12_link_k0 (p := 9) rfl (by decide +kernel)
theorem dmX12_link_12 : decode cX12_link 12 = .ok (.iload_n 1, 1) := dw_at cX12_link_k0 (p := 12) rfl (by decide +kernel)
theorem dmX12_link_13 : decode cX12_link 13 = .ok (.iconst (-1), 1) := dw_at cX12_link_k0 (p := 13) rfl (by decide +kernel)
theorem dmX12_link_14 : decode cX12_link 14 = .ok (.iastore, 1) := dw_at cX12_link_k0 (p := 14) rfl (by decide +kernel)
theorem dmX12_link_15 : decode cX12_link 15 = .ok (.iinc 1 1, 3) := dw_at cX12_link_k0 (p := 15) rfl (by decide +kernel)
theorem dmX12_link_18 : decode cX12_link 18 = .ok (.goto (-16), 3) := dw_at cX12_link_k0 (p := 18) rfl (by decide +kernel)
theorem dmX12_link_21 : decode cX12_link 21 = .ok (.iconst 0, 1) := dw_at cX12_link_k0 (p := 21) rfl (by decide +kernel)
theorem dmX12_link_22 : decode cX12_link 22 = .ok (.istore_n 1, 1) := dw_at cX12_link_k0 (p := 22) rfl (by decide +kernel)
theorem dmX12_link_23 : decode cX12_link 23 = .ok (.iload_n 1, 1) := dw_at cX12_link_k0 (p := 23) rfl (by decide +kernel)
theorem dmX12_link_24 : decode cX12_link 24 = .ok (.aload_n 0, 1) := dw_at cX12_link_k1 (p := 0) rfl (by decide +kernel)
theorem dmX12_link_25 : decode cX12_link 25 = .ok (.getfield 52, 3) := dw_at cX12_link_k1 (p := 1) rfl (by decide +kernel)
theorem dmX12_link_28 : decode cX12_link 28 = .ok (.if_icmp .ge 156, 3) := dw_at cX12_link_k1 (p := 4) rfl (by decide +kernel)
theorem dmX12_link_31 : decode cX12_link 31 = .ok (.aload_n 0, 1) := dw_at cX12_link_k1 (p := 7) rfl (by decide +kernel)
theorem dmX12_link_32 : decode cX12_link 32 = .ok (.getfield 9, 3) := dw_at cX12_link_k1 (p := 8) rfl (by decide +kernel)
theorem dmX12_link_35 : decode cX12_link 35 = .ok (.iload_n 1, 1) := dw_at cX12_link_k1 (p := 11) rfl (by decide +kernel)
theorem dmX12_link_36 : decode cX12_link 36 = .ok (.iaload, 1) := dw_at cX12_link_k1 (p := 12) rfl (by decide +kernel)
theorem dmX12_link_37 : decode cX12_link 37 = .ok (.istore_n 2, 1) := dw_at cX12_link_k1 (p := 13) rfl (by decide +kernel)
theorem dmX12_link_38 : decode cX12_link 38 = .ok (.iload_n 2, 1) := dw_at cX12_link_k1 (p := 14) rfl (by decide +kernel)
theorem dmX12_link_39 : decode cX12_link 39 = .ok (.aload_n 0, 1) := dw_at cX12_link_k1 (p := 15) rfl (by decide +kernel)
theorem dmX12_link_40 : decode cX12_link 40 = .ok (.getfield 9, 3) := dw_at cX12_link_k1 (p := 16) rfl (by decide +kernel)
theorem dmX12_link_43 : decode cX12_link 43 = .ok (.iload_n 1, 1) := dw_at cX12_link_k1 (p := 19) rfl (by decide +kernel)
theorem dmX12_link_44 : decode cX12_link 44 = .ok (.iconst 1, 1) := dw_at cX12_link_k1 (p := 20) rfl (by decide +kernel)
theorem dmX12_link_45 : decode cX12_link 45 = .ok (.iadd, 1) := dw_at cX12_link_k1 (p := 21) rfl (by decide +kernel)
theorem dmX12_link_46 : decode cX12_link 46 = .ok (.iaload, 1) := dw_at cX12_link_k1 (p := 22) rfl (by decide +kernel)
theorem dmX12_link_47 : decode cX12_link 47 = .ok (.if_icmp .ge 131, 3) := dw_at cX12_link_k1 (p := 23) rfl (by decide +kernel)
theorem dmX12_link_50 : decode cX12_link 50 = .ok (.aload_n 0, 1) := dw_at cX12_link_k2 (p := 0) rfl (by decide +kernel)
theorem dmX12_link_51 : decode cX12_link 51 = .ok (.getfield 27, 3) := dw_at cX12_link_k2 (p := 1) rfl (by decide +kernel)
theorem dmX12_link_54 : decode cX12_link 54 = .ok (.iload_n 2, 1) := dw_at cX12_link_k2 (p := 4) rfl (by decide +kernel)
theorem dmX12_link_55 : decode cX12_link 55 = .ok (.iload_n 1, 1) := dw_at cX12_link_k2 (p := 5) rfl (by decide +kernel)
theorem dmX12_link_56 : decode cX12_link 56 = .ok (.iastore, 1) := dw_at cX12_link_k2 (p := 6) rfl (by decide +kernel)
theorem dmX12_link_57 : decode cX12_link 57 = .ok (.aload_n 0, 1) := dw_at cX12_link_k2 (p := 7) rfl (by decide +kernel)
theorem dmX12_link_58 : decode cX12_link 58 = .ok (.getfield 30, 3) := dw_at cX12_link_k2 (p := 8) rfl (by decide +kernel)
theorem dmX12_link_61 : decode cX12_link 61 = .ok (.iload_n 2, 1) := dw_at cX12_link_k2 (p := 11) rfl (by decide +kernel)
theorem dmX12_link_62 : decode cX12_link 62 = .ok (.iload_n 2, 1) := dw_at cX12_link_k2 (p := 12) rfl (by decide +kernel)
theorem dmX12_link_63 : decode cX12_link 63 = .ok (.iconst 1, 1) := dw_at cX12_link_k2 (p := 13) rfl (by decide +kernel)
theorem dmX12_link_64 : decode cX12_link 64 = .ok (.iadd, 1) := dw_at cX12_link_k2 (p := 14) rfl (by decide +kernel)
theorem dmX12_link_65 : decode cX12_link 65 = .ok (.aload_n 0, 1) := dw_at cX12_link_k2 (p := 15) rfl (by decide +kernel)
theorem dmX12_link_66 : decode cX12_link 66 = .ok (.getfield 9, 3) := dw_at cX12_link_k2 (p := 16) rfl (by decide +kernel)
theorem dmX12_link_69 : decode cX12_link 69 = .ok (.iload_n 1, 1) := dw_at cX12_link_k2 (p := 19) rfl (by decide +kernel)
theorem dmX12_link_70 : decode cX12_link 70 = .ok (.iconst 1, 1) := dw_at cX12_link_k2 (p := 20) rfl (by decide +kernel)
theorem dmX12_link_71 : decode cX12_link 71 = .ok (.iadd, 1) := dw_at cX12_link_k2 (p := 21) rfl (by decide +kernel)
theorem dmX12_link_72 : decode cX12_link 72 = .ok (.iaload, 1) := dw_at cX12_link_k2 (p := 22) rfl (by decide +kernel)
theorem dmX12_link_73 : decode cX12_link 73 = .ok (.if_icmp .ge 9, 3) := dw_at cX12_link_k2 (p := 23) rfl (by decide +kernel)
theorem dmX12_link_76 : decode cX12_link 76 = .ok (.iload_n 2, 1) := dw_at cX12_link_k3 (p := 0) rfl (by decide +kernel)
theorem dmX12_link_77 : decode cX12_link 77 = .ok (.iconst 1, 1) := dw_at cX12_link_k3 (p := 1) rfl (by decide +kernel)
theorem dmX12_link_78 : decode cX12_link 78 = .ok (.iadd, 1) := dw_at cX12_link_k3 (p := 2) rfl (by decide +kernel)
theorem dmX12_link_79 : decode cX12_link 79 = .ok (.goto 9, 3) := dw_at cX12_link_k3 (p := 3) rfl (by decide +kernel)
theorem dmX12_link_82 : decode cX12_link 82 = .ok (.aload_n 0, 1) := dw_at cX12_link_k3 (p := 6) rfl (by decide +kernel)
theorem dmX12_link_83 : decode cX12_link 83 = .ok (.getfield 9, 3) := dw_at cX12_link_k3 (p := 7) rfl (by decide +kernel)
theorem dmX12_link_86 : decode cX12_link 86 = .ok (.iload_n 1, 1) := dw_at cX12_link_k3 (p := 10) rfl (by decide +kernel)
theorem dmX12_link_87 : decode cX12_link 87 = .ok (.iaload, 1) := dw_at cX12_link_k3 (p := 11) rfl (by decide +kernel)
theorem dmX12_link_88 : decode cX12_link 88 = .ok (.iastore, 1) := dw_at cX12_link_k3 (p := 12) rfl (by decide +kernel)
theorem dmX12_link_89 : decode cX12_link 89 = .ok (.aload_n 0, 1) := dw_at cX12_link_k3 (p := 13) rfl (by decide +kernel)
theorem dmX12_link_90 : decode cX12_link 90 = .ok (.getfield 33, 3) := dw_at cX12_link_k3 (p := 14) rfl (by decide +kernel)
theorem dmX12_link_93 : decode cX12_link 93 = .ok (.iload_n 2, 1) := dw_at cX12_link_k3 (p := 17) rfl (by decide +kernel)
theorem dmX12_link_94 : decode cX12_link 94 = .ok (.iload_n 2, 1) := dw_at cX12_link_k3 (p := 18) rfl (by decide +kernel)
theorem dmX12_link_95 : decode cX12_link 95 = .ok (.aload_n 0, 1) := dw_at cX12_link_k3 (p := 19) rfl (by decide +kernel)
theorem dmX12_link_96 : decode cX12_link 96 = .ok (.getfield 9, 3) := dw_at cX12_link_k3 (p := 20) rfl (by decide +kernel)
theorem dmX12_link_99 : decode cX12_link 99 = .ok (.iload_n 1, 1) := dw_at cX12_link_k3 (p := 23) rfl (by decide +kernel)
theorem dmX12_link_100 : decode cX12_link 100 = .ok (.iaload, 1) := dw_at cX12_link_k4 (p := 0) rfl (by decide +kernel)
theorem dmX12_link_101 : decode cX12_link 101 = .ok (.if_icmp .le 9, 3) := dw_at cX12_link_k4 (p := 1) rfl (by decide +kernel)
theorem dmX12_link_104 : decode cX12_link 104 = .ok (.iload_n 2, 1) := dw_at cX12_link_k4 (p := 4) rfl (by decide +kernel)
theorem dmX12_link_105 : decode cX12_link 105 = .ok (.iconst 1, 1) := dw_at cX12_link_k4 (p := 5) rfl (by decide +kernel)
theorem dmX12_link_106 : decode cX12_link 106 = .ok (.isub, 1) := dw_at cX12_link_k4 (p := 6) rfl (by decide +kernel)
theorem dmX12_link_107 : decode cX12_link 107 = .ok (.goto 13, 3) := dw_at cX12_link_k4 (p := 7) rfl (by decide +kernel)
theorem dmX12_link_110 : decode cX12_link 110 = .ok (.aload_n 0, 1) := dw_at cX12_link_k4 (p := 10) rfl (by decide +kernel)
theorem dmX12_link_111 : decode cX12_link 111 = .ok (.getfield 9, 3) := dw_at cX12_link_k4 (p := 11) rfl (by decide +kernel)
theorem dmX12_link_114 : decode cX12_link 114 = .ok (.iload_n 1, 1) := dw_at cX12_link_k4 (p := 14) rfl (by decide +kernel)
theorem dmX12_link_115 : decode cX12_link 115 = .ok (.iconst 1, 1) := dw_at cX12_link_k4 (p := 15) rfl (by decide +kernel)
theorem dmX12_link_116 : decode cX12_link 116 = .ok (.iadd, 1) := dw_at cX12_link_k4 (p := 16) rfl (by decide +kernel)
theorem dmX12_link_117 : decode cX12_link 117 = .ok (.iaload, 1) := dw_at cX12_link_k4 (p := 17) rfl (by decide +kernel)
theorem dmX12_link_118 : decode cX12_link 118 = .ok (.iconst 1, 1) := dw_at cX12_link_k4 (p := 18) rfl (by decide +kernel)
theorem dmX12_link_119 : decode cX12_link 119 = .ok (.isub, 1) := dw_at cX12_link_k4 (p := 19) rfl (by decide +kernel)
theorem dmX12_link_120 : decode cX12_link 120 = .ok (.iastore, 1) := dw_at cX12_link_k4 (p := 20) rfl (by decide +kernel)
theorem dmX12_link_121 : decode cX12_link 121 = .ok (.aload_n 0, 1) := dw_at cX12_link_k4 (p := 21) rfl (by decide +kernel)
theorem dmX12_link_122 : decode cX12_link 122 = .ok (.getfield 15, 3) := dw_at cX12_link_k4 (p := 22) rfl (by decide +kernel)
theorem dmX12_link_125 : decode cX12_link 125 = .ok (.iload_n 2, 1) := dw_at cX12_link_k5 (p := 0) rfl (by decide +kernel)
theorem dmX12_link_126 : decode cX12_link 126 = .ok (.iaload, 1) := dw_at cX12_link_k5 (p := 1) rfl (by decide +kernel)
theorem dmX12_link_127 : decode cX12_link 127 = .ok (.istore_n 3, 1) := dw_at cX12_link_k5 (p := 2) rfl (by decide +kernel)
theorem dmX12_link_128 : decode cX12_link 128 = .ok (.aload_n 0, 1) := dw_at cX12_link_k5 (p := 3) rfl (by decide +kernel)
theorem dmX12_link_129 : decode cX12_link 129 = .ok (.getfield 36, 3) := dw_at cX12_link_k5 (p := 4) rfl (by decide +kernel)
theorem dmX12_link_132 : decode cX12_link 132 = .ok (.iload_n 3, 1) := dw_at cX12_link_k5 (p := 7) rfl (by decide +kernel)
theorem dmX12_link_133 : decode cX12_link 133 = .ok (.iaload, 1) := dw_at cX12_link_k5 (p := 8) rfl (by decide +kernel)
theorem dmX12_link_134 : decode cX12_link 134 = .ok (.iconst (-1), 1) := dw_at cX12_link_k5 (p := 9) rfl (by decide +kernel)
theorem dmX12_link_135 : decode cX12_link 135 = .ok (.if_icmp .ne 13, 3) := dw_at cX12_link_k5 (p := 10) rfl (by decide +kernel)
theorem dmX12_link_138 : decode cX12_link 138 = .ok (.aload_n 0, 1) := dw_at cX12_link_k5 (p := 13) rfl (by decide +kernel)
theorem dmX12_link_139 : decode cX12_link 139 = .ok (.getfield 36, 3) := dw_at cX12_link_k5 (p := 14) rfl (by decide +kernel)
theorem dmX12_link_142 : decode cX12_link 142 = .ok (.iload_n 3, 1) := dw_at cX12_link_k5 (p := 17) rfl (by decide +kernel)
theorem dmX12_link_143 : decode cX12_link 143 = .ok (.iload_n 2, 1) := dw_at cX12_link_k5 (p := 18) rfl (by decide +kernel)
theorem dmX12_link_144 : decode cX12_link 144 = .ok (.iastore, 1) := dw_at cX12_link_k5 (p := 19) rfl (by decide +kernel)
theorem dmX12_link_145 : decode cX12_link 145 = .ok (.goto 27, 3) := dw_at cX12_link_k5 (p := 20) rfl (by decide +kernel)
theorem dmX12_link_148 : decode cX12_link 148 = .ok (.aload_n 0, 1) := dw_at cX12_link_k5 (p := 23) rfl (by decide +kernel)
theorem dmX12_link_149 : decode cX12_link 149 = .ok (.getfield 24, 3) := dw_at cX12_link_k6 (p := 0) rfl (by decide +kernel)
theorem dmX12_link_152 : decode cX12_link 152 = .ok (.iload_n 2, 1) := dw_at cX12_link_k6 (p := 3) rfl (by decide +kernel)
theorem dmX12_link_153 : decode cX12_link 153 = .ok (.aload_n 0, 1) := dw_at cX12_link_k6 (p := 4) rfl (by decide +kernel)
theorem dmX12_link_154 : decode cX12_link 154 = .ok (.getfield 36, 3) := dw_at cX12_link_k6 (p := 5) rfl (by decide +kernel)
theorem dmX12_link_157 : decode cX12_link 157 = .ok (.iload_n 3, 1) := dw_at cX12_link_k6 (p := 8) rfl (by decide +kernel)
theorem dmX12_link_158 : decode cX12_link 158 = .ok (.iaload, 1) := dw_at cX12_link_k6 (p := 9) rfl (by decide +kernel)
theorem dmX12_link_159 : decode cX12_link 159 = .ok (.iastore, 1) := dw_at cX12_link_k6 (p := 10) rfl (by decide +kernel)
theorem dmX12_link_160 : decode cX12_link 160 = .ok (.aload_n 0, 1) := dw_at cX12_link_k6 (p := 11) rfl (by decide +kernel)
theorem dmX12_link_161 : decode cX12_link 161 = .ok (.getfield 24, 3) := dw_at cX12_link_k6 (p := 12) rfl (by decide +kernel)
theorem dmX12_link_164 : decode cX12_link 164 = .ok (.aload_n 0, 1) := dw_at cX12_link_k6 (p := 15) rfl (by decide +kernel)
theorem dmX12_link_165 : decode cX12_link 165 = .ok (.getfield 36, 3) := dw_at cX12_link_k6 (p := 16) rfl (by decide +kernel)
theorem dmX12_link_168 : decode cX12_link 168 = .ok (.iload_n 3, 1) := dw_at cX12_link_k6 (p := 19) rfl (by decide +kernel)
theorem dmX12_link_169 : decode cX12_link 169 = .ok (.iaload, 1) := dw_at cX12_link_k6 (p := 20) rfl (by decide +kernel)
theorem dmX12_link_170 : decode cX12_link 170 = .ok (.iload_n 2, 1) := dw_at cX12_link_k6 (p := 21) rfl (by decide +kernel)
theorem dmX12_link_171 : decode cX12_link 171 = .ok (.iastore, 1) := dw_at cX12_link_k6 (p := 22) rfl (by decide +kernel)
theorem dmX12_link_172 : decode cX12_link 172 = .ok (.iinc 2 1, 3) := dw_at cX12_link_k6 (p := 23) rfl (by decide +kernel)
theorem dmX12_link_175 : decode cX12_link 175 = .ok (.goto (-137), 3) := dw_at cX12_link_k7 (p := 0) rfl (by decide +kernel)
theorem dmX12_link_178 : decode cX12_link 178 = .ok (.iinc 1 1, 3) := dw_at cX12_link_k7 (p := 3) rfl (by decide +kernel)
theorem dmX12_link_181 : decode cX12_link 181 = .ok (.goto (-158), 3) := dw_at cX12_link_k7 (p := 6) rfl (by decide +kernel)
theorem dmX12_link_184 : decode cX12_link 184 = .ok (.return_, 1) := dw_at cX12_link_k7 (p := 9) rfl (by decide +kernel)
def qm_X12_link_0 (K : Nat) (go : Nat → Int32 → Int32 → Int32 → Nat → Int32 → Int32 → ow_MS → Option ow_MS) (x1 : Int32) (x2 : Int32) (x3 : Int32) (r0 : Nat) (t0 : Int32) (t1 : Int32) (z : ow_MS) : Option ow_MS :=
 go 1 0 0 0 r0 0 0 z
def qm_X12_link_1 (K : Nat) (go : Nat → Int32 → Int32 → Int32 → Nat → Int32 → Int32 → ow_MS → Option ow_MS) (x1 : Int32) (x2 : Int32) (x3 : Int32) (r0 : Nat) (t0 : Int32) (t1 : Int32) (z : ow_MS) : Option ow_MS :=
 (if 40 ≤ x1 then go 2 0 0 0 r0 0 0 z
 else wrI mX z (r0 + 11) x1 (-1) fun z1 => go 1 (x1 + 1) 0 0 r0 0 0 z1)
def qm_X12_link_2 (K : Nat) (go : Nat → Int32 → Int32 → Int32 → Nat → Int32 → Int32 → ow_MS → Option ow_MS) (x1 : Int32) (x2 : Int32) (x3 : Int32) (r0 : Nat) (t0 : Int32) (t1 : Int32) (z : ow_MS) : Option ow_MS :=
 rdF z (r0 + 2) fun v2 => (if v2 ≤ x1 then some z
 else rdI mX z (r0 + 3) x1 fun v3 => go 3 x1 v3 0 r0 0 0 z)
def qm_X12_link_3 (K : Nat) (go : Nat → Int32 → Int32 → Int32 → Nat → Int32 → Int32 → ow_MS → Option ow_MS) (x1 : Int32) (x2 : Int32) (x3 : Int32) (r0 : Nat) (t0 : Int32) (t1 : Int32) (z : ow_MS) : Option ow_MS :=
 rdI mX z (r0 + 3) (x1 + 1) fun v4 => (if v4 ≤ x2 then go 2 (x1 + 1) 0 0 r0 0 0 z
 else wrI mX z (r0 + 8) x2 x1 fun z5 => rdI mX z5 (r0 + 3) (x1 + 1) fun v6 => (if v6 ≤ (x2 + 1) then rdI mX z5 (r0 + 3) x1 fun v7 => go 4 x1 x2 0 r0 v7 x2 z5
 else go 4 x1 x2 0 r0 (x2 + 1) x2 z5))
def qm_X12_link_4 (K : Nat) (go : Nat → Int32 → Int32 → Int32 → Nat → Int32 → Int32 → ow_MS → Option ow_MS) (x1 : Int32) (x2 : Int32) (x3 : Int32) (r0 : Nat) (t0 : Int32) (t1 : Int32) (z : ow_MS) : Option ow_MS :=
 wrI mX z (r0 + 9) t1 t0 fun z8 => rdI mX z8 (r0 + 3) x1 fun v9 => (if x2 ≤ v9 then rdI mX z8 (r0 + 3) (x1 + 1) fun v10 => go 5 x1 x2 0 r0 (v10 - 1) x2 z8
 else go 5 x1 x2 0 r0 (x2 - 1) x2 z8)
def qm_X12_link_5 (K : Nat) (go : Nat → Int32 → Int32 → Int32 → Nat → Int32 → Int32 → ow_MS → Option ow_MS) (x1 : Int32) (x2 : Int32) (x3 : Int32) (r0 : Nat) (t0 : Int32) (t1 : Int32) (z : ow_MS) : Option ow_MS :=
 wrI mX z (r0 + 10) t1 t0 fun z11 => rdI mX z11 (r0 + 4) x2 fun v12 => rdI mX z11 (r0 + 11) v12 fun v13 => (if v13 = (-1) then wrI mX z11 (r0 + 11) v12 x2 fun z18 => go 6 x1 x2 v12 r0 0 0 z18
 else rdI mX z11 (r0 + 11) v12 fun v14 => wrI mX z11 (r0 + 7) x2 v14 fun z15 => rdI mX z15 (r0 + 11) v12 fun v16 => wrI mX z15 (r0 + 7) v16 x2 fun z17 => go 6 x1 x2 v12 r0 0 0 z17)
def qm_X12_link_6 (K : Nat) (go : Nat → Int32 → Int32 → Int32 → Nat → Int32 → Int32 → ow_MS → Option ow_MS) (x1 : Int32) (x2 : Int32) (x3 : Int32) (r0 : Nat) (t0 : Int32) (t1 : Int32) (z : ow_MS) : Option ow_MS :=
 go 3 x1 (x2 + 1) 0 r0 0 0 z
def qb_X12_link (K : Nat) (go : Nat → Int32 → Int32 → Int32 → Nat → Int32 → Int32 → ow_MS → Option ow_MS) (L : Nat) (x1 : Int32) (x2 : Int32) (x3 : Int32) (r0 : Nat) (t0 : Int32) (t1 : Int32) (z : ow_MS) : Option ow_MS := match L with
  | 0 => qm_X12_link_0 K go x1 x2 x3 r0 t0 t1 z
  | 1 => qm_X12_link_1 K go x1 x2 x3 r0 t0 t1 z
  | 2 => qm_X12_link_2 K go x1 x2 x3 r0 t0 t1 z
  | 3 => qm_X12_link_3 K go x1 x2 x3 r0 t0 t1 z
  | 4 => qm_X12_link_4 K go x1 x2 x3 r0 t0 t1 z
  | 5 => qm_X12_link_5 K go x1 x2 x3 r0 t0 t1 z
  | 6 => qm_X12_link_6 K go x1 x2 x3 r0 t0 t1 z
  | _ => none
def q_X12_link (K : Nat) : Nat → Nat → Int32 → Int32 → Int32 → Nat → Int32 → Int32 → ow_MS → Option ow_MS
  | 0 => fun _ _ _ _ _ _ _ _ => none
  | k + 1 => qb_X12_link K (q_X12_link K k)
def qe_X12_link (K : Nat) (r0 : Nat) (z : ow_MS) : Option ow_MS := q_X12_link K K 0 0 0 0 r0 0 0 z
abbrev wm_X12_link : List Cond := .code yX12_link cX12_link 4 none :: wM
theorem cd_X12_link : yX12_link.cls = RX12 ∧ yX12_link.cls ≠ "java/lang/invoke/MethodHandle" ∧ yX12_link.cls ≠ "java/lang/invoke/VarHandle" ∧ (parseMethodDescriptor yX12_link.desc).map (fun d => d.parameters.length) = some 0 := by decide +kernel
set_option maxHeartbeats 4000000 in
set_option maxRecDepth 100000 in
theorem km_X12_link (l : Launch) (D : va_G) (q : ow_Q5) (u : Nat → Nat) (hU : tw_inj mX u) (K : Nat) (r0 : Nat) (hr0 : mw_net r0) (z z1 : ow_MS) (hq : qe_X12_link K r0 z = some z1) : Met l yX12_link wm_X12_link ({ frames := 0, cells := 0, slots := 0, locals := 0 } : Room) (va_Pc [.ref (u r0)] (mw_pre D q u z)) (va_Qv (fun (_ : Unit) => True) (fun _ t => va_P D vwCl (tw mX q u z1) t.heap) (tw_A mX u)) 0 0 (tw_A mX u) := by
  refine Met.ofW (cc := cX12_link) (maxL := 4) (ret := none) (by decide) rfl ?_
  intro p e s m args below meth c s₁ B hml hv
  obtain ⟨rfl, hP, hK, hN⟩ := hv
  have hx := B.exec
  have hb := B.bytes
  have hr := B.returns
  have hts := atoms_spec (ws := wm_X12_link) B.pre
  have hT : ∀ w ∈ wM, w.before ([.ref (u r0)] : List Value).toArray s = true := fun w h => hts w (List.mem_cons_of_mem _ h)
  have hown : s.vm.findClass RX12 = some m.cls := findClass_of_methodNamed B.named
  have hlocks := B.notSynchronized
  have hM : tw_M D vwCl mX q s.heap u z s.heap [] := ⟨hP, va_S.rf⟩
  have hl := lv_entry ([.ref (u r0)]) (n := 4) (Nat.le_of_ble_eq_true rfl)
  rw [lg_entry_eq]
  generalize (lg_sl ([.ref (u r0)]) ++ List.replicate (4 - (lg_sl ([.ref (u r0)])).length) Slot.unset).toArray = ls at hl ⊢
  have hl : lv_has ls 4 [(0, .ref (u r0))] := hl
  refine ow_named (fun QQ hQQ => ?_)
  generalize ([.ref (u r0)] : List Value).toArray = args at hts hT hQQ ⊢
  have key : ∀ k : Nat, (∀ (x1 : Int32) (x2 : Int32) (x3 : Int32) (r0 : Nat) (t0 : Int32) (t1 : Int32) (z : ow_MS) (H : Heap) (locs : List Loc) (ls : Array Slot), mw_net r0 → tw_M D vwCl mX q s.heap u z H locs → lv_has ls 4 [(0, .ref (u r0))] → q_X12_link K k 0 x1 x2 x3 r0 t0 t1 z = some z1 → W p l e ({ frames := 0, cells := 0, slots := 0, locals := 0 } : Room) s m args below meth c H locs 0 0 QQ (F0 m 0 ls [])) ∧ (∀ (x1 : Int32) (x2 : Int32) (x3 : Int32) (r0 : Nat) (t0 : Int32) (t1 : Int32) (z : ow_MS) (H : Heap) (locs : List Loc) (ls : Array Slot), mw_net r0 → tw_M D vwCl mX q s.heap u z H locs → lv_has ls 4 [(0, .ref (u r0)), (1, .int x1)] → q_X12_link K k 1 x1 x2 x3 r0 t0 t1 z = some z1 → W p l e ({ frames := 0, cells := 0, slots := 0, locals := 0 } : Room) s m args below meth c H locs 0 0 QQ (F0 m 2 ls [])) ∧ (∀ (x1 : Int32) (x2 : Int32) (x3 : Int32) (r0 : Nat) (t0 : Int32) (t1 : Int32) (z : ow_MS) (H : Heap) (locs : List Loc) (ls : Array Slot), mw_net r0 → tw_M D vwCl mX q s.heap u z H locs → lv_has ls 4 [(0, .ref (u r0)), (1, .int x1)] → q_X12_link K k 2 x1 x2 x3 r0 t0 t1 z = some z1 → W p l e ({ frames := 0, cells := 0, slots := 0, locals := 0 } : Room) s m args below meth c H locs 0 0 QQ (F0 m 23 ls [])) ∧ (∀ (x1 : Int32) (x2 : Int32) (x3 : Int32) (r0 : Nat) (t0 : Int32) (t1 : Int32) (z : ow_MS) (H : Heap) (locs : List Loc) (ls : Array Slot), mw_net r0 → tw_M D vwCl mX q s.heap u z H locs → lv_has ls 4 [(0, .ref (u r0)), (1, .int x1), (2, .int x2)] → q_X12_link K k 3 x1 x2 x3 r0 t0 t1 z = some z1 → W p l e ({ frames := 0, cells := 0, slots := 0, locals := 0 } : Room) s m args below meth c H locs 0 0 QQ (F0 m 38 ls [])) ∧ (∀ (x1 : Int32) (x2 : Int32) (x3 : Int32) (r0 : Nat) (t0 : Int32) (t1 : Int32) (z : ow_MS) (H : Heap) (locs : List Loc) (ls : Array Slot), mw_net r0 → tw_M D vwCl mX q s.heap u z H locs → lv_has ls 4 [(0, .ref (u r0)), (1, .int x1), (2, .int x2)] → q_X12_link K k 4 x1 x2 x3 r0 t0 t1 z = some z1 → W p l e ({ frames := 0, cells := 0, slots := 0, locals := 0 } : Room) s m args below meth c H locs 0 0 QQ (F0 m 88 ls [.int t0, .int t1, .ref (u (r0 + 9))])) ∧ (∀ (x1 : Int32) (x2 : Int32) (x3 : Int32) (r0 : Nat) (t0 : Int32) (t1 : Int32) (z : ow_MS) (H : Heap) (locs : List Loc) (ls : Array Slot), mw_net r0 → tw_M D vwCl mX q s.heap u z H locs → lv_has ls 4 [(0, .ref (u r0)), (1, .int x1), (2, .int x2)] → q_X12_link K k 5 x1 x2 x3 r0 t0 t1 z = some z1 → W p l e ({ frames := 0, cells := 0, slots := 0, locals := 0 } : Room) s m args below meth c H locs 0 0 QQ (F0 m 120 ls [.int t0, .int t1, .ref (u (r0 + 10))])) ∧ (∀ (x1 : Int32) (x2 : Int32) (x3 : Int32) (r0 : Nat) (t0 : Int32) (t1 : Int32) (z : ow_MS) (H : Heap) (locs : List Loc) (ls : Array Slot), mw_net r0 → tw_M D vwCl mX q s.heap u z H locs → lv_has ls 4 [(0, .ref (u r0)), (1, .int x1), (2, .int x2), (3, .int x3)] → q_X12_link K k 6 x1 x2 x3 r0 t0 t1 z = some z1 → W p l e ({ frames := 0, cells := 0, slots := 0, locals := 0 } : Room) s m args below meth c H locs 0 0 QQ (F0 m 172 ls [])) := by
    intro k
    induction k with
    | zero => exact ⟨fun _ _ _ _ _ _ _ _ _ _ _ _ _ hq => tw_no hq, fun _ _ _ _ _ _ _ _ _ _ _ _ _ hq => tw_no hq, fun _ _ _ _ _ _ _ _ _ _ _ _ _ hq => tw_no hq, fun _ _ _ _ _ _ _ _ _ _ _ _ _ hq => tw_no hq, fun _ _ _ _ _ _ _ _ _ _ _ _ _ hq => tw_no hq, fun _ _ _ _ _ _ _ _ _ _ _ _ _ hq => tw_no hq, fun _ _ _ _ _ _ _ _ _ _ _ _ _ hq => tw_no hq⟩
    | succ k ih =>
      obtain ⟨ih_0, ih_1, ih_2, ih_3, ih_4, ih_5, ih_6⟩ := ih
      refine ⟨?_, ?_, ?_, ?_, ?_, ?_, ?_⟩
      · intro x1 x2 x3 r0 t0 t1 z H locs ls hr0 hM hl hq
        have hq : qm_X12_link_0 K (q_X12_link K k) x1 x2 x3 r0 t0 t1 z = some z1 := hq
        unfold qm_X12_link_0 at hq
        refine lv_iconst (v := 0) hx hb dmX12_link_0 (by decide) ?_
        refine lv_istore_n (lv' := [(1, .int 0), (0, .ref (u r0))]) hx hb dmX12_link_1 rfl hl (by decide) rfl (fun ls hl => ?_)
        exact ih_1 0 0 0 r0 0 0 z H locs ls hr0 hM (lv_sub hl [1, 0] rfl) hq
      · intro x1 x2 x3 r0 t0 t1 z H locs ls hr0 hM hl hq
        have hq : qm_X12_link_1 K (q_X12_link K k) x1 x2 x3 r0 t0 t1 z = some z1 := hq
        unfold qm_X12_link_1 at hq
        refine lv_iload_n hx hb dmX12_link_2 rfl (lv_at hl 1 rfl) ?_
        refine lv_bipush (v := 40) hx hb dmX12_link_3 (by decide) ?_
        refine lv_icmp_ge (tgt := 21) hx hb dmX12_link_5 (by decide) (fun hc => ?_) (fun hc => ?_)
        · have hq := tw_it hq hc
          refine lv_iconst (v := 0) hx hb dmX12_link_21 (by decide) ?_
          refine lv_istore_n (lv' := [(1, .int 0), (0, .ref (u r0))]) hx hb dmX12_link_22 rfl hl (by decide) rfl (fun ls hl => ?_)
          exact ih_2 0 0 0 r0 0 0 z H locs ls hr0 hM (lv_sub hl [1, 0] rfl) hq
        · have hq := tw_if hq hc
          refine lv_aload_n hx hb dmX12_link_8 rfl (lv_at hl 0 rfl) ?_
          refine mg12_36 hx hb hT hown hK hM hr0 dmX12_link_9 ?_
          refine lv_iload_n hx hb dmX12_link_12 rfl (lv_at hl 1 rfl) ?_
          refine lv_iconst (v := (-1)) hx hb dmX12_link_13 (by decide) ?_
          refine tw_iast mX_ok hU hx hb hK hM (mrn_11 hr0) hq dmX12_link_14 (fun z1 H locs hM hq => ?_)
          refine lv_iinc (v := (x1 + 1)) (lv' := [(1, .int (x1 + 1)), (0, .ref (u r0))]) hx hb dmX12_link_15 hl (k := 1) rfl rfl (by decide) rfl (fun ls hl => ?_)
          refine lv_goto (tgt := 2) hx hb dmX12_link_18 (by decide) ?_
          exact ih_1 (x1 + 1) 0 0 r0 0 0 z1 H locs ls hr0 hM (lv_sub hl [1, 0] rfl) hq
      · intro x1 x2 x3 r0 t0 t1 z H locs ls hr0 hM hl hq
        have hq : qm_X12_link_2 K (q_X12_link K k) x1 x2 x3 r0 t0 t1 z = some z1 := hq
        unfold qm_X12_link_2 at hq
        refine lv_iload_n hx hb dmX12_link_23 rfl (lv_at hl 1 rfl) ?_
        refine lv_aload_n hx hb dmX12_link_24 rfl (lv_at hl 0 rfl) ?_
        refine mg12_52 hx hb hT hown hK hM hr0 hq dmX12_link_25 (fun v2 hq => ?_)
        refine lv_icmp_ge (tgt := 184) hx hb dmX12_link_28 (by decide) (fun hc => ?_) (fun hc => ?_)
        · have hq := tw_it hq hc
          exact mw_vret hx hb hr hlocks hM hq hQQ dmX12_link_184
        · have hq := tw_if hq hc
          refine lv_aload_n hx hb dmX12_link_31 rfl (lv_at hl 0 rfl) ?_
          refine mg12_9 hx hb hT hown hK hM hr0 dmX12_link_32 ?_
          refine lv_iload_n hx hb dmX12_link_35 rfl (lv_at hl 1 rfl) ?_
          refine tw_iald mX_ok hx hb hK hM (mrn_3 hr0) hq dmX12_link_36 (fun v3 hq => ?_)
          refine lv_istore_n (lv' := [(2, .int v3), (0, .ref (u r0)), (1, .int x1)]) hx hb dmX12_link_37 rfl hl (by decide) rfl (fun ls hl => ?_)
          exact ih_3 x1 v3 0 r0 0 0 z H locs ls hr0 hM (lv_sub hl [1, 2, 0] rfl) hq
      · intro x1 x2 x3 r0 t0 t1 z H locs ls hr0 hM hl hq
        have hq : qm_X12_link_3 K (q_X12_link K k) x1 x2 x3 r0 t0 t1 z = some z1 := hq
        unfold qm_X12_link_3 at hq
        refine lv_iload_n hx hb dmX12_link_38 rfl (lv_at hl 2 rfl) ?_
        refine lv_aload_n hx hb dmX12_link_39 rfl (lv_at hl 0 rfl) ?_
        refine mg12_9 hx hb hT hown hK hM hr0 dmX12_link_40 ?_
        refine lv_iload_n hx hb dmX12_link_43 rfl (lv_at hl 1 rfl) ?_
        refine lv_iconst (v := 1) hx hb dmX12_link_44 (by decide) ?_
        refine lv_iadd hx hb dmX12_link_45 ?_
        refine tw_iald mX_ok hx hb hK hM (mrn_3 hr0) hq dmX12_link_46 (fun v4 hq => ?_)
        refine lv_icmp_ge (tgt := 178) hx hb dmX12_link_47 (by decide) (fun hc => ?_) (fun hc => ?_)
        · have hq := tw_it hq hc
          refine lv_iinc (v := (x1 + 1)) (lv' := [(1, .int (x1 + 1)), (0, .ref (u r0)), (2, .int x2)]) hx hb dmX12_link_178 hl (k := 1) rfl rfl (by decide) rfl (fun ls hl => ?_)
          refine lv_goto (tgt := 23) hx hb dmX12_link_181 (by decide) ?_
          exact ih_2 (x1 + 1) 0 0 r0 0 0 z H locs ls hr0 hM (lv_sub hl [1, 0] rfl) hq
        · have hq := tw_if hq hc
          refine lv_aload_n hx hb dmX12_link_50 rfl (lv_at hl 0 rfl) ?_
          refine mg12_27 hx hb hT hown hK hM hr0 dmX12_link_51 ?_
          refine lv_iload_n hx hb dmX12_link_54 rfl (lv_at hl 2 rfl) ?_
          refine lv_iload_n hx hb dmX12_link_55 rfl (lv_at hl 1 rfl) ?_
          refine tw_iast mX_ok hU hx hb hK hM (mrn_8 hr0) hq dmX12_link_56 (fun z5 H locs hM hq => ?_)
          refine lv_aload_n hx hb dmX12_link_57 rfl (lv_at hl 0 rfl) ?_
          refine mg12_30 hx hb hT hown hK hM hr0 dmX12_link_58 ?_
          refine lv_iload_n hx hb dmX12_link_61 rfl (lv_at hl 2 rfl) ?_
          refine lv_iload_n hx hb dmX12_link_62 rfl (lv_at hl 2 rfl) ?_
          refine lv_iconst (v := 1) hx hb dmX12_link_63 (by decide) ?_
          refine lv_iadd hx hb dmX12_link_64 ?_
          refine lv_aload_n hx hb dmX12_link_65 rfl (lv_at hl 0 rfl) ?_
          refine mg12_9 hx hb hT hown hK hM hr0 dmX12_link_66 ?_
          refine lv_iload_n hx hb dmX12_link_69 rfl (lv_at hl 1 rfl) ?_
          refine lv_iconst (v := 1) hx hb dmX12_link_70 (by decide) ?_
          refine lv_iadd hx hb dmX12_link_71 ?_
          refine tw_iald mX_ok hx hb hK hM (mrn_3 hr0) hq dmX12_link_72 (fun v6 hq => ?_)
          refine lv_icmp_ge (tgt := 82) hx hb dmX12_link_73 (by decide) (fun hc => ?_) (fun hc => ?_)
          · have hq := tw_it hq hc
            refine lv_aload_n hx hb dmX12_link_82 rfl (lv_at hl 0 rfl) ?_
            refine mg12_9 hx hb hT hown hK hM hr0 dmX12_link_83 ?_
            refine lv_iload_n hx hb dmX12_link_86 rfl (lv_at hl 1 rfl) ?_
            refine tw_iald mX_ok hx hb hK hM (mrn_3 hr0) hq dmX12_link_87 (fun v7 hq => ?_)
            exact ih_4 x1 x2 0 r0 v7 x2 z5 H locs ls hr0 hM (lv_sub hl [0, 1, 2] rfl) hq
          · have hq := tw_if hq hc
            refine lv_iload_n hx hb dmX12_link_76 rfl (lv_at hl 2 rfl) ?_
            refine lv_iconst (v := 1) hx hb dmX12_link_77 (by decide) ?_
            refine lv_iadd hx hb dmX12_link_78 ?_
            refine lv_goto (tgt := 88) hx hb dmX12_link_79 (by decide) ?_
            exact ih_4 x1 x2 0 r0 (x2 + 1) x2 z5 H locs ls hr0 hM (lv_sub hl [0, 1, 2] rfl) hq
      · intro x1 x2 x3 r0 t0 t1 z H locs ls hr0 hM hl hq
        have hq : qm_X12_link_4 K (q_X12_link K k) x1 x2 x3 r0 t0 t1 z = some z1 := hq
        unfold qm_X12_link_4 at hq
        refine tw_iast mX_ok hU hx hb hK hM (mrn_9 hr0) hq dmX12_link_88 (fun z8 H locs hM hq => ?_)
        refine lv_aload_n hx hb dmX12_link_89 rfl (lv_at hl 0 rfl) ?_
        refine mg12_33 hx hb hT hown hK hM hr0 dmX12_link_90 ?_
        refine lv_iload_n hx hb dmX12_link_93 rfl (lv_at hl 2 rfl) ?_
        refine lv_iload_n hx hb dmX12_link_94 rfl (lv_at hl 2 rfl) ?_
        refine lv_aload_n hx hb dmX12_link_95 rfl (lv_at hl 0 rfl) ?_
        refine mg12_9 hx hb hT hown hK hM hr0 dmX12_link_96 ?_
        refine lv_iload_n hx hb dmX12_link_99 rfl (lv_at hl 1 rfl) ?_
        refine tw_iald mX_ok hx hb hK hM (mrn_3 hr0) hq dmX12_link_100 (fun v9 hq => ?_)
        refine lv_icmp_le (tgt := 110) hx hb dmX12_link_101 (by decide) (fun hc => ?_) (fun hc => ?_)
        · have hq := tw_it hq hc
          refine lv_aload_n hx hb dmX12_link_110 rfl (lv_at hl 0 rfl) ?_
          refine mg12_9 hx hb hT hown hK hM hr0 dmX12_link_111 ?_
          refine lv_iload_n hx hb dmX12_link_114 rfl (lv_at hl 1 rfl) ?_
          refine lv_iconst (v := 1) hx hb dmX12_link_115 (by decide) ?_
          refine lv_iadd hx hb dmX12_link_116 ?_
          refine tw_iald mX_ok hx hb hK hM (mrn_3 hr0) hq dmX12_link_117 (fun v10 hq => ?_)
          refine lv_iconst (v := 1) hx hb dmX12_link_118 (by decide) ?_
          refine lv_isub hx hb dmX12_link_119 ?_
          exact ih_5 x1 x2 0 r0 (v10 - 1) x2 z8 H locs ls hr0 hM (lv_sub hl [0, 1, 2] rfl) hq
        · have hq := tw_if hq hc
          refine lv_iload_n hx hb dmX12_link_104 rfl (lv_at hl 2 rfl) ?_
          refine lv_iconst (v := 1) hx hb dmX12_link_105 (by decide) ?_
          refine lv_isub hx hb dmX12_link_106 ?_
          refine lv_goto (tgt := 120) hx hb dmX12_link_107 (by decide) ?_
          exact ih_5 x1 x2 0 r0 (x2 - 1) x2 z8 H locs ls hr0 hM (lv_sub hl [0, 1, 2] rfl) hq
      · intro x1 x2 x3 r0 t0 t1 z H locs ls hr0 hM hl hq
        have hq : qm_X12_link_5 K (q_X12_link K k) x1 x2 x3 r0 t0 t1 z = some z1 := hq
        unfold qm_X12_link_5 at hq
        refine tw_iast mX_ok hU hx hb hK hM (mrn_10 hr0) hq dmX12_link_120 (fun z11 H locs hM hq => ?_)
        refine lv_aload_n hx hb dmX12_link_121 rfl (lv_at hl 0 rfl) ?_
        refine mg12_15 hx hb hT hown hK hM hr0 dmX12_link_122 ?_
        refine lv_iload_n hx hb dmX12_link_125 rfl (lv_at hl 2 rfl) ?_
        refine tw_iald mX_ok hx hb hK hM (mrn_4 hr0) hq dmX12_link_126 (fun v12 hq => ?_)
        refine lv_istore_n (lv' := [(3, .int v12), (0, .ref (u r0)), (1, .int x1), (2, .int x2)]) hx hb dmX12_link_127 rfl hl (by decide) rfl (fun ls hl => ?_)
        refine lv_aload_n hx hb dmX12_link_128 rfl (lv_at hl 1 rfl) ?_
        refine mg12_36 hx hb hT hown hK hM hr0 dmX12_link_129 ?_
        refine lv_iload_n hx hb dmX12_link_132 rfl (lv_at hl 0 rfl) ?_
        refine tw_iald mX_ok hx hb hK hM (mrn_11 hr0) hq dmX12_link_133 (fun v13 hq => ?_)
        refine lv_iconst (v := (-1)) hx hb dmX12_link_134 (by decide) ?_
        refine lv_icmp_ne (tgt := 148) hx hb dmX12_link_135 (by decide) (fun hc => ?_) (fun hc => ?_)
        · have hq := tw_if hq hc
          refine lv_aload_n hx hb dmX12_link_148 rfl (lv_at hl 1 rfl) ?_
          refine mg12_24 hx hb hT hown hK hM hr0 dmX12_link_149 ?_
          refine lv_iload_n hx hb dmX12_link_152 rfl (lv_at hl 3 rfl) ?_
          refine lv_aload_n hx hb dmX12_link_153 rfl (lv_at hl 1 rfl) ?_
          refine mg12_36 hx hb hT hown hK hM hr0 dmX12_link_154 ?_
          refine lv_iload_n hx hb dmX12_link_157 rfl (lv_at hl 0 rfl) ?_
          refine tw_iald mX_ok hx hb hK hM (mrn_11 hr0) hq dmX12_link_158 (fun v14 hq => ?_)
          refine tw_iast mX_ok hU hx hb hK hM (mrn_7 hr0) hq dmX12_link_159 (fun z15 H locs hM hq => ?_)
          refine lv_aload_n hx hb dmX12_link_160 rfl (lv_at hl 1 rfl) ?_
          refine mg12_24 hx hb hT hown hK hM hr0 dmX12_link_161 ?_
          refine lv_aload_n hx hb dmX12_link_164 rfl (lv_at hl 1 rfl) ?_
          refine mg12_36 hx hb hT hown hK hM hr0 dmX12_link_165 ?_
          refine lv_iload_n hx hb dmX12_link_168 rfl (lv_at hl 0 rfl) ?_
          refine tw_iald mX_ok hx hb hK hM (mrn_11 hr0) hq dmX12_link_169 (fun v16 hq => ?_)
          refine lv_iload_n hx hb dmX12_link_170 rfl (lv_at hl 3 rfl) ?_
          refine tw_iast mX_ok hU hx hb hK hM (mrn_7 hr0) hq dmX12_link_171 (fun z17 H locs hM hq => ?_)
          exact ih_6 x1 x2 v12 r0 0 0 z17 H locs ls hr0 hM (lv_sub hl [1, 2, 3, 0] rfl) hq
        · have hq := tw_it hq hc
          refine lv_aload_n hx hb dmX12_link_138 rfl (lv_at hl 1 rfl) ?_
          refine mg12_36 hx hb hT hown hK hM hr0 dmX12_link_139 ?_
          refine lv_iload_n hx hb dmX12_link_142 rfl (lv_at hl 0 rfl) ?_
          refine lv_iload_n hx hb dmX12_link_143 rfl (lv_at hl 3 rfl) ?_
          refine tw_iast mX_ok hU hx hb hK hM (mrn_11 hr0) hq dmX12_link_144 (fun z18 H locs hM hq => ?_)
          refine lv_goto (tgt := 172) hx hb dmX12_link_145 (by decide) ?_
          exact ih_6 x1 x2 v12 r0 0 0 z18 H locs ls hr0 hM (lv_sub hl [1, 2, 3, 0] rfl) hq
      · intro x1 x2 x3 r0 t0 t1 z H locs ls hr0 hM hl hq
        have hq : qm_X12_link_6 K (q_X12_link K k) x1 x2 x3 r0 t0 t1 z = some z1 := hq
        unfold qm_X12_link_6 at hq
        refine lv_iinc (v := (x2 + 1)) (lv' := [(2, .int (x2 + 1)), (0, .ref (u r0)), (1, .int x1), (3, .int x3)]) hx hb dmX12_link_172 hl (k := 2) rfl rfl (by decide) rfl (fun ls hl => ?_)
        refine lv_goto (tgt := 38) hx hb dmX12_link_175 (by decide) ?_
        exact ih_3 x1 (x2 + 1) 0 r0 0 0 z H locs ls hr0 hM (lv_sub hl [1, 2, 0] rfl) hq
  exact (key K).1 0 0 0 r0 0 0 z s.heap [] ls hr0 hM (lv_sub hl [0] rfl) hq
theorem dmX12_split_0 : decode cX12_split 0 = .ok (.iconst 0, 1) := dw_at cX12_split_k0 (p := 0) rfl (by decide +kernel)
theorem dmX12_split_1 : decode cX12_split 1 = .ok (.istore_n 1, 1) := dw_at cX12_split_k0 (p := 1) rfl (by decide +kernel)
theorem dmX12_split_2 : decode cX12_split 2 = .ok (.iload_n 1, 1) := dw_at cX12_split_k0 (p := 2) rfl (by decide +kernel)
theorem dmX12_split_3 : decode cX12_split 3 = .ok (.aload_n 0, 1) := dw_at cX12_split_k0 (p := 3) rfl (by decide +kernel)
theorem dmX12_split_4 : decode cX12_split 4 = .ok (.getfield 52, 3) := dw_at cX12_split_k0 (p := 4) rfl (by decide +kernel)
theorem dmX12_split_7 : decode cX12_split 7 = .ok (.if_icmp .ge 16, 3) := dw_at cX12_split_k0 (p := 7) rfl (by decide +kernel)
theorem dmX12_split_10 : decode cX12_split 10 = .ok (.aload_n 0, 1) := dw_at cX12_split_k0 (p := 10) rfl (by decide +kernel)
theorem dmX12_split_11 : decode cX12_split 11 = .ok (.getfield 39, 3) := dw_at cX12_split_k0 (p := 11) rfl (by decide +kernel)
theorem dmX12_split_14 : decode cX12_split 14 = .ok (.iload_n 1, 1) := dw_at cX12_split_k0 (p := 14) rfl (by decide +kernel)
theorem dmX12_split_15 : decode cX12_split 15 = .ok (.iconst (-1), 1) := dw_at cX12_split_k0 (p := 15) rfl (by decide +kernel)
theorem dmX12_split_16 : decode cX12_split 16 = .ok (.iastore, 1) := dw_at cX12_split_k0 (p := 16) rfl (by decide +kernel)
theorem dmX12_split_17 : decode cX12_split 17 = .ok (.iinc 1 1, 3) := dw_at cX12_split_k0 (p := 17) rfl (by decide +kernel)
theorem dmX12_split_20 : decode cX12_split 20 = .ok (.goto (-18), 3) := dw_at cX12_split_k0 (p := 20) rfl (by decide +kernel)
theorem dmX12_split_23 : decode cX12_split 23 = .ok (.aload_n 0, 1) := dw_at cX12_split_k0 (p := 23) rfl (by decide +kernel)
theorem dmX12_split_24 : decode cX12_split 24 = .ok (.iconst 0, 1) := dw_at cX12_split_k1 (p := 0) rfl (by decide +kernel)
theorem dmX12_split_25 : decode cX12_split 25 = .ok (.putfield 69, 3) := dw_at cX12_split_k1 (p := 1) rfl (by decide +kernel)
theorem dmX12_split_28 : decode cX12_split 28 = .ok (.iconst 0, 1) := dw_at cX12_split_k1 (p := 4) rfl (by decide +kernel)
theorem dmX12_split_29 : decode cX12_split 29 = .ok (.istore_n 1, 1) := dw_at cX12_split_k1 (p := 5) rfl (by decide +kernel)
theorem dmX12_split_30 : decode cX12_split 30 = .ok (.iload_n 1, 1) := dw_at cX12_split_k1 (p := 6) rfl (by decide +kernel)
theorem dmX12_split_31 : decode cX12_split 31 = .ok (.aload_n 0, 1) := dw_at cX12_split_k1 (p := 7) rfl (by decide +kernel)
theorem dmX12_split_32 : decode cX12_split 32 = .ok (.getfield 52, 3) := dw_at cX12_split_k1 (p := 8) rfl (by decide +kernel)
theorem dmX12_split_35 : decode cX12_split 35 = .ok (.if_icmp .ge 126, 3) := dw_at cX12_split_k1 (p := 11) rfl (by decide +kernel)
theorem dmX12_split_38 : decode cX12_split 38 = .ok (.aload_n 0, 1) := dw_at cX12_split_k1 (p := 14) rfl (by decide +kernel)
theorem dmX12_split_39 : decode cX12_split 39 = .ok (.getfield 39, 3) := dw_at cX12_split_k1 (p := 15) rfl (by decide +kernel)
theorem dmX12_split_42 : decode cX12_split 42 = .ok (.iload_n 1, 1) := dw_at cX12_split_k1 (p := 18) rfl (by decide +kernel)
theorem dmX12_split_43 : decode cX12_split 43 = .ok (.iaload, 1) := dw_at cX12_split_k1 (p := 19) rfl (by decide +kernel)
theorem dmX12_split_44 : decode cX12_split 44 = .ok (.iconst (-1), 1) := dw_at cX12_split_k1 (p := 20) rfl (by decide +kernel)
theorem dmX12_split_45 : decode cX12_split 45 = .ok (.if_icmp .ne 110, 3) := dw_at cX12_split_k1 (p := 21) rfl (by decide +kernel)
theorem dmX12_split_48 : decode cX12_split 48 = .ok (.aload_n 0, 1) := dw_at cX12_split_k2 (p := 0) rfl (by decide +kernel)
theorem dmX12_split_49 : decode cX12_split 49 = .ok (.getfield 39, 3) := dw_at cX12_split_k2 (p := 1) rfl (by decide +kernel)
theorem dmX12_split_52 : decode cX12_split 52 = .ok (.iload_n 1, 1) := dw_at cX12_split_k2 (p := 4) rfl (by decide +kernel)
theorem dmX12_split_53 : decode cX12_split 53 = .ok (.aload_n 0, 1) := dw_at cX12_split_k2 (p := 5) rfl (by decide +kernel)
theorem dmX12_split_54 : decode cX12_split 54 = .ok (.getfield 69, 3) := dw_at cX12_split_k2 (p := 6) rfl (by decide +kernel)
theorem dmX12_split_57 : decode cX12_split 57 = .ok (.iastore, 1) := dw_at cX12_split_k2 (p := 9) rfl (by decide +kernel)
theorem dmX12_split_58 : decode cX12_split 58 = .ok (.iconst 1, 1) := dw_at cX12_split_k2 (p := 10) rfl (by decide +kernel)
theorem dmX12_split_59 : decode cX12_split 59 = .ok (.istore_n 2, 1) := dw_at cX12_split_k2 (p := 11) rfl (by decide +kernel)
theorem dmX12_split_60 : decode cX12_split 60 = .ok (.iload_n 2, 1) := dw_at cX12_split_k2 (p := 12) rfl (by decide +kernel)
theorem dmX12_split_61 : decode cX12_split 61 = .ok (.ifCond .eq 84, 3) := dw_at cX12_split_k2 (p := 13) rfl (by decide +kernel)
theorem dmX12_split_64 : decode cX12_split 64 = .ok (.iconst 0, 1) := dw_at cX12_split_k2 (p := 16) rfl (by decide +kernel)
theorem dmX12_split_65 : decode cX12_split 65 = .ok (.istore_n 2, 1) := dw_at cX12_split_k2 (p := 17) rfl (by decide +kernel)
theorem dmX12_split_66 : decode cX12_split 66 = .ok (.iconst 0, 1) := dw_at cX12_split_k2 (p := 18) rfl (by decide +kernel)
theorem dmX12_split_67 : decode cX12_split 67 = .ok (.istore_n 3, 1) := dw_at cX12_split_k2 (p := 19) rfl (by decide +kernel)
theorem dmX12_split_68 : decode cX12_split 68 = .ok (.iload_n 3, 1) := dw_at cX12_split_k2 (p := 20) rfl (by decide +kernel)
theorem dmX12_split_69 : decode cX12_split 69 = .ok (.aload_n 0, 1) := dw_at cX12_split_k2 (p := 21) rfl (by decide +kernel)
theorem dmX12_split_70 : decode cX12_split 70 = .ok (.getfield 48, 3) := dw_at cX12_split_k2 (p := 22) rfl (by decide +kernel)
theorem dmX12_split_73 : decode cX12_split 73 = .ok (.if_icmp .ge 69, 3) := dw_at cX12_split_k3 (p := 0) rfl (by decide +kernel)
theorem dmX12_split_76 : decode cX12_split 76 = .ok (.aload_n 0, 1) := dw_at cX12_split_k3 (p := 3) rfl (by decide +kernel)
theorem dmX12_split_77 : decode cX12_split 77 = .ok (.getfield 39, 3) := dw_at cX12_split_k3 (p := 4) rfl (by decide +kernel)
theorem dmX12_split_80 : decode cX12_split 80 = .ok (.aload_n 0, 1) := dw_at cX12_split_k3 (p := 7) rfl (by decide +kernel)
theorem dmX12_split_81 : decode cX12_split 81 = .ok (.getfield 27, 3) := dw_at cX12_split_k3 (p := 8) rfl (by decide +kernel)
theorem dmX12_split_84 : decode cX12_split 84 = .ok (.iload_n 3, 1) := dw_at cX12_split_k3 (p := 11) rfl (by decide +kernel)
theorem dmX12_split_85 : decode cX12_split 85 = .ok (.iaload, 1) := dw_at cX12_split_k3 (p := 12) rfl (by decide +kernel)
theorem dmX12_split_86 : decode cX12_split 86 = .ok (.iaload, 1) := dw_at cX12_split_k3 (p := 13) rfl (by decide +kernel)
theorem dmX12_split_87 : decode cX12_split 87 = .ok (.aload_n 0, 1) := dw_at cX12_split_k3 (p := 14) rfl (by decide +kernel)
theorem dmX12_split_88 : decode cX12_split 88 = .ok (.getfield 69, 3) := dw_at cX12_split_k3 (p := 15) rfl (by decide +kernel)
theorem dmX12_split_91 : decode cX12_split 91 = .ok (.if_icmp .ne 45, 3) := dw_at cX12_split_k3 (p := 18) rfl (by decide +kernel)
theorem dmX12_split_94 : decode cX12_split 94 = .ok (.aload_n 0, 1) := dw_at cX12_split_k3 (p := 21) rfl (by decide +kernel)
theorem dmX12_split_95 : decode cX12_split 95 = .ok (.getfield 39, 3) := dw_at cX12_split_k3 (p := 22) rfl (by decide +kernel)
theorem dmX12_split_98 : decode cX12_split 98 = .ok (.aload_n 0, 1) := dw_at cX12_split_k4 (p := 0) rfl (by decide +kernel)
theorem dmX12_split_99 : decode cX12_split 99 = .ok (.getfield 27, 3) := dw_at cX12_split_k4 (p := 1) rfl (by decide +kernel)
theorem dmX12_split_102 : decode cX12_split 102 = .ok (.aload_n 0, 1) := dw_at cX12_split_k4 (p := 4) rfl (by decide +kernel)
theorem dmX12_split_103 : decode cX12_split 103 = .ok (.getfield 24, 3) := dw_at cX12_split_k4 (p := 5) rfl (by decide +kernel)
theorem dmX12_split_106 : decode cX12_split 106 = .ok (.iload_n 3, 1) := dw_at cX12_split_k4 (p := 8) rfl (by decide +kernel)
theorem dmX12_split_107 : decode cX12_split 107 = .ok (.iaload, 1) := dw_at cX12_split_k4 (p := 9) rfl (by decide +kernel)
theorem dmX12_split_108 : decode cX12_split 108 = .ok (.iaload, 1) := dw_at cX12_split_k4 (p := 10) rfl (by decide +kernel)
theorem dmX12_split_109 : decode cX12_split 109 = .ok (.iaload, 1) := dw_at cX12_split_k4 (p := 11) rfl (by decide +kernel)
theorem dmX12_split_110 : decode cX12_split 110 = .ok (.iconst (-1), 1) := dw_at cX12_split_k4 (p := 12) rfl (by decide +kernel)
theorem dmX12_split_111 : decode cX12_split 111 = .ok (.if_icmp .ne 25, 3) := dw_at cX12_split_k4 (p := 13) rfl (by decide +kernel)
theorem dmX12_split_114 : decode cX12_split 114 = .ok (.aload_n 0, 1) := dw_at cX12_split_k4 (p := 16) rfl (by decide +kernel)
theorem dmX12_split_115 : decode cX12_split 115 = .ok (.getfield 39, 3) := dw_at cX12_split_k4 (p := 17) rfl (by decide +kernel)
theorem dmX12_split_118 : decode cX12_split 118 = .ok (.aload_n 0, 1) := dw_at cX12_split_k4 (p := 20) rfl (by decide +kernel)
theorem dmX12_split_119 : decode cX12_split 119 = .ok (.getfield 27, 3) := dw_at cX12_split_k4 (p := 21) rfl (by decide +kernel)
theorem dmX12_split_122 : decode cX12_split 122 = .ok (.aload_n 0, 1) := dw_at cX12_split_k5 (p := 0) rfl (by decide +kernel)
theorem dmX12_split_123 : decode cX12_split 123 = .ok (.getfield 24, 3) := dw_at cX12_split_k5 (p := 1) rfl (by decide +kernel)
theorem dmX12_split_126 : decode cX12_split 126 = .ok (.iload_n 3, 1) := dw_at cX12_split_k5 (p := 4) rfl (by decide +kernel)
theorem dmX12_split_127 : decode cX12_split 127 = .ok (.iaload, 1) := dw_at cX12_split_k5 (p := 5) rfl (by decide +kernel)
theorem dmX12_split_128 : decode cX12_split 128 = .ok (.iaload, 1) := dw_at cX12_split_k5 (p := 6) rfl (by decide +kernel)
theorem dmX12_split_129 : decode cX12_split 129 = .ok (.aload_n 0, 1) := dw_at cX12_split_k5 (p := 7) rfl (by decide +kernel)
theorem dmX12_split_130 : decode cX12_split 130 = .ok (.getfield 69, 3) := dw_at cX12_split_k5 (p := 8) rfl (by decide +kernel)
theorem dmX12_split_133 : decode cX12_split 133 = .ok (.iastore, 1) := dw_at cX12_split_k5 (p := 11) rfl (by decide +kernel)
theorem dmX12_split_134 : decode cX12_split 134 = .ok (.iconst 1, 1) := dw_at cX12_split_k5 (p := 12) rfl (by decide +kernel)
theorem dmX12_split_135 : decode cX12_split 135 = .ok (.istore_n 2, 1) := dw_at cX12_split_k5 (p := 13) rfl (by decide +kernel)
theorem dmX12_split_136 : decode cX12_split 136 = .ok (.iinc 3 1, 3) := dw_at cX12_split_k5 (p := 14) rfl (by decide +kernel)
theorem dmX12_split_139 : decode cX12_split 139 = .ok (.goto (-71), 3) := dw_at cX12_split_k5 (p := 17) rfl (by decide +kernel)
theorem dmX12_split_142 : decode cX12_split 142 = .ok (.goto (-82), 3) := dw_at cX12_split_k5 (p := 20) rfl (by decide +kernel)
theorem dmX12_split_145 : decode cX12_split 145 = .ok (.aload_n 0, 1) := dw_at cX12_split_k5 (p := 23) rfl (by decide +kernel)
theorem dmX12_split_146 : decode cX12_split 146 = .ok (.dup, 1) := dw_at cX12_split_k6 (p := 0) rfl (by decide +kernel)
theorem dmX12_split_147 : decode cX12_split 147 = .ok (.getfield 69, 3) := dw_at cX12_split_k6 (p := 1) rfl (by decide +kernel)
theorem dmX12_split_150 : decode cX12_split 150 = .ok (.iconst 1, 1) := dw_at cX12_split_k6 (p := 4) rfl (by decide +kernel)
theorem dmX12_split_151 : decode cX12_split 151 = .ok (.iadd, 1) := dw_at cX12_split_k6 (p := 5) rfl (by decide +kernel)
theorem dmX12_split_152 : decode cX12_split 152 = .ok (.putfield 69, 3) := dw_at cX12_split_k6 (p := 6) rfl (by decide +kernel)
theorem dmX12_split_155 : decode cX12_split 155 = .ok (.iinc 1 1, 3) := dw_at cX12_split_k6 (p := 9) rfl (by decide +kernel)
theorem dmX12_split_158 : decode cX12_split 158 = .ok (.goto (-128), 3) := dw_at cX12_split_k6 (p := 12) rfl (by decide +kernel)
theorem dmX12_split_161 : decode cX12_split 161 = .ok (.return_, 1) := dw_at cX12_split_k6 (p := 15) rfl (by decide +kernel)
def qm_X12_split_0 (K : Nat) (go : Nat → Int32 → Int32 → Int32 → Nat → ow_MS → Option ow_MS) (x1 : Int32) (x2 : Int32) (x3 : Int32) (r0 : Nat) (z : ow_MS) : Option ow_MS :=
 go 1 0 0 0 r0 z
def qm_X12_split_1 (K : Nat) (go : Nat → Int32 → Int32 → Int32 → Nat → ow_MS → Option ow_MS) (x1 : Int32) (x2 : Int32) (x3 : Int32) (r0 : Nat) (z : ow_MS) : Option ow_MS :=
 rdF z (r0 + 2) fun v1 => (if v1 ≤ x1 then wrF z (r0 + 13) 0 fun z2 => go 2 0 0 0 r0 z2
 else wrI mX z (r0 + 12) x1 (-1) fun z3 => go 1 (x1 + 1) 0 0 r0 z3)
def qm_X12_split_2 (K : Nat) (go : Nat → Int32 → Int32 → Int32 → Nat → ow_MS → Option ow_MS) (x1 : Int32) (x2 : Int32) (x3 : Int32) (r0 : Nat) (z : ow_MS) : Option ow_MS :=
 rdF z (r0 + 2) fun v4 => (if v4 ≤ x1 then some z
 else rdI mX z (r0 + 12) x1 fun v5 => (if v5 = (-1) then rdF z (r0 + 13) fun v6 => wrI mX z (r0 + 12) x1 v6 fun z7 => go 3 x1 1 0 r0 z7
 else go 6 x1 0 0 r0 z))
def qm_X12_split_3 (K : Nat) (go : Nat → Int32 → Int32 → Int32 → Nat → ow_MS → Option ow_MS) (x1 : Int32) (x2 : Int32) (x3 : Int32) (r0 : Nat) (z : ow_MS) : Option ow_MS :=
 (if x2 = 0 then rdF z (r0 + 13) fun v8 => wrF z (r0 + 13) (v8 + 1) fun z9 => go 6 x1 0 0 r0 z9
 else go 4 x1 0 0 r0 z)
def qm_X12_split_4 (K : Nat) (go : Nat → Int32 → Int32 → Int32 → Nat → ow_MS → Option ow_MS) (x1 : Int32) (x2 : Int32) (x3 : Int32) (r0 : Nat) (z : ow_MS) : Option ow_MS :=
 rdF z (r0 + 1) fun v10 => (if v10 ≤ x3 then go 3 x1 x2 0 r0 z
 else rdI mX z (r0 + 8) x3 fun v11 => rdI mX z (r0 + 12) v11 fun v12 => rdF z (r0 + 13) fun v13 => (if v12 = v13 then rdI mX z (r0 + 7) x3 fun v14 => rdI mX z (r0 + 8) v14 fun v15 => rdI mX z (r0 + 12) v15 fun v16 => (if v16 = (-1) then rdI mX z (r0 + 7) x3 fun v17 => rdI mX z (r0 + 8) v17 fun v18 => rdF z (r0 + 13) fun v19 => wrI mX z (r0 + 12) v18 v19 fun z20 => go 5 x1 1 x3 r0 z20
 else go 5 x1 x2 x3 r0 z)
 else go 5 x1 x2 x3 r0 z))
def qm_X12_split_5 (K : Nat) (go : Nat → Int32 → Int32 → Int32 → Nat → ow_MS → Option ow_MS) (x1 : Int32) (x2 : Int32) (x3 : Int32) (r0 : Nat) (z : ow_MS) : Option ow_MS :=
 go 4 x1 x2 (x3 + 1) r0 z
def qm_X12_split_6 (K : Nat) (go : Nat → Int32 → Int32 → Int32 → Nat → ow_MS → Option ow_MS) (x1 : Int32) (x2 : Int32) (x3 : Int32) (r0 : Nat) (z : ow_MS) : Option ow_MS :=
 go 2 (x1 + 1) 0 0 r0 z
def qb_X12_split (K : Nat) (go : Nat → Int32 → Int32 → Int32 → Nat → ow_MS → Option ow_MS) (L : Nat) (x1 : Int32) (x2 : Int32) (x3 : Int32) (r0 : Nat) (z : ow_MS) : Option ow_MS := match L with
  | 0 => qm_X12_split_0 K go x1 x2 x3 r0 z
  | 1 => qm_X12_split_1 K go x1 x2 x3 r0 z
  | 2 => qm_X12_split_2 K go x1 x2 x3 r0 z
  | 3 => qm_X12_split_3 K go x1 x2 x3 r0 z
  | 4 => qm_X12_split_4 K go x1 x2 x3 r0 z
  | 5 => qm_X12_split_5 K go x1 x2 x3 r0 z
  | 6 => qm_X12_split_6 K go x1 x2 x3 r0 z
  | _ => none
def q_X12_split (K : Nat) : Nat → Nat → Int32 → Int32 → Int32 → Nat → ow_MS → Option ow_MS
  | 0 => fun _ _ _ _ _ _ => none
  | k + 1 => qb_X12_split K (q_X12_split K k)
def qe_X12_split (K : Nat) (r0 : Nat) (z : ow_MS) : Option ow_MS := q_X12_split K K 0 0 0 0 r0 z
abbrev wm_X12_split : List Cond := .code yX12_split cX12_split 4 none :: wM
theorem cd_X12_split : yX12_split.cls = RX12 ∧ yX12_split.cls ≠ "java/lang/invoke/MethodHandle" ∧ yX12_split.cls ≠ "java/lang/invoke/VarHandle" ∧ (parseMethodDescriptor yX12_split.desc).map (fun d => d.parameters.length) = some 0 := by decide +kernel
set_option maxHeartbeats 4000000 in
set_option maxRecDepth 100000 in
theorem km_X12_split (l : Launch) (D : va_G) (q : ow_Q5) (u : Nat → Nat) (hU : tw_inj mX u) (K : Nat) (r0 : Nat) (hr0 : mw_net r0) (z z1 : ow_MS) (hq : qe_X12_split K r0 z = some z1) : Met l yX12_split wm_X12_split ({ frames := 0, cells := 0, slots := 0, locals := 0 } : Room) (va_Pc [.ref (u r0)] (mw_pre D q u z)) (va_Qv (fun (_ : Unit) => True) (fun _ t => va_P D vwCl (tw mX q u z1) t.heap) (tw_A mX u)) 0 0 (tw_A mX u) := by
  refine Met.ofW (cc := cX12_split) (maxL := 4) (ret := none) (by decide) rfl ?_
  intro p e s m args below meth c s₁ B hml hv
  obtain ⟨rfl, hP, hK, hN⟩ := hv
  have hx := B.exec
  have hb := B.bytes
  have hr := B.returns
  have hts := atoms_spec (ws := wm_X12_split) B.pre
  have hT : ∀ w ∈ wM, w.before ([.ref (u r0)] : List Value).toArray s = true := fun w h => hts w (List.mem_cons_of_mem _ h)
  have hown : s.vm.findClass RX12 = some m.cls := findClass_of_methodNamed B.named
  have hlocks := B.notSynchronized
  have hM : tw_M D vwCl mX q s.heap u z s.heap [] := ⟨hP, va_S.rf⟩
  have hl := lv_entry ([.ref (u r0)]) (n := 4) (Nat.le_of_ble_eq_true rfl)
  rw [lg_entry_eq]
  generalize (lg_sl ([.ref (u r0)]) ++ List.replicate (4 - (lg_sl ([.ref (u r0)])).length) Slot.unset).toArray = ls at hl ⊢
  have hl : lv_has ls 4 [(0, .ref (u r0))] := hl
  refine ow_named (fun QQ hQQ => ?_)
  generalize ([.ref (u r0)] : List Value).toArray = args at hts hT hQQ ⊢
  have key : ∀ k : Nat, (∀ (x1 : Int32) (x2 : Int32) (x3 : Int32) (r0 : Nat) (z : ow_MS) (H : Heap) (locs : List Loc) (ls : Array Slot), mw_net r0 → tw_M D vwCl mX q s.heap u z H locs → lv_has ls 4 [(0, .ref (u r0))] → q_X12_split K k 0 x1 x2 x3 r0 z = some z1 → W p l e ({ frames := 0, cells := 0, slots := 0, locals := 0 } : Room) s m args below meth c H locs 0 0 QQ (F0 m 0 ls [])) ∧ (∀ (x1 : Int32) (x2 : Int32) (x3 : Int32) (r0 : Nat) (z : ow_MS) (H : Heap) (locs : List Loc) (ls : Array Slot), mw_net r0 → tw_M D vwCl mX q s.heap u z H locs → lv_has ls 4 [(0, .ref (u r0)), (1, .int x1)] → q_X12_split K k 1 x1 x2 x3 r0 z = some z1 → W p l e ({ frames := 0, cells := 0, slots := 0, locals := 0 } : Room) s m args below meth c H locs 0 0 QQ (F0 m 2 ls [])) ∧ (∀ (x1 : Int32) (x2 : Int32) (x3 : Int32) (r0 : Nat) (z : ow_MS) (H : Heap) (locs : List Loc) (ls : Array Slot), mw_net r0 → tw_M D vwCl mX q s.heap u z H locs → lv_has ls 4 [(0, .ref (u r0)), (1, .int x1)] → q_X12_split K k 2 x1 x2 x3 r0 z = some z1 → W p l e ({ frames := 0, cells := 0, slots := 0, locals := 0 } : Room) s m args below meth c H locs 0 0 QQ (F0 m 30 ls [])) ∧ (∀ (x1 : Int32) (x2 : Int32) (x3 : Int32) (r0 : Nat) (z : ow_MS) (H : Heap) (locs : List Loc) (ls : Array Slot), mw_net r0 → tw_M D vwCl mX q s.heap u z H locs → lv_has ls 4 [(0, .ref (u r0)), (1, .int x1), (2, .int x2)] → q_X12_split K k 3 x1 x2 x3 r0 z = some z1 → W p l e ({ frames := 0, cells := 0, slots := 0, locals := 0 } : Room) s m args below meth c H locs 0 0 QQ (F0 m 60 ls [])) ∧ (∀ (x1 : Int32) (x2 : Int32) (x3 : Int32) (r0 : Nat) (z : ow_MS) (H : Heap) (locs : List Loc) (ls : Array Slot), mw_net r0 → tw_M D vwCl mX q s.heap u z H locs → lv_has ls 4 [(0, .ref (u r0)), (1, .int x1), (2, .int x2), (3, .int x3)] → q_X12_split K k 4 x1 x2 x3 r0 z = some z1 → W p l e ({ frames := 0, cells := 0, slots := 0, locals := 0 } : Room) s m args below meth c H locs 0 0 QQ (F0 m 68 ls [])) ∧ (∀ (x1 : Int32) (x2 : Int32) (x3 : Int32) (r0 : Nat) (z : ow_MS) (H : Heap) (locs : List Loc) (ls : Array Slot), mw_net r0 → tw_M D vwCl mX q s.heap u z H locs → lv_has ls 4 [(0, .ref (u r0)), (1, .int x1), (2, .int x2), (3, .int x3)] → q_X12_split K k 5 x1 x2 x3 r0 z = some z1 → W p l e ({ frames := 0, cells := 0, slots := 0, locals := 0 } : Room) s m args below meth c H locs 0 0 QQ (F0 m 136 ls [])) ∧ (∀ (x1 : Int32) (x2 : Int32) (x3 : Int32) (r0 : Nat) (z : ow_MS) (H : Heap) (locs : List Loc) (ls : Array Slot), mw_net r0 → tw_M D vwCl mX q s.heap u z H locs → lv_has ls 4 [(0, .ref (u r0)), (1, .int x1)] → q_X12_split K k 6 x1 x2 x3 r0 z = some z1 → W p l e ({ frames := 0, cells := 0, slots := 0, locals := 0 } : Room) s m args below meth c H locs 0 0 QQ (F0 m 155 ls [])) := by
    intro k
    induction k with
    | zero => exact ⟨fun _ _ _ _ _ _ _ _ _ _ _ hq => tw_no hq, fun _ _ _ _ _ _ _ _ _ _ _ hq => tw_no hq, fun _ _ _ _ _ _ _ _ _ _ _ hq => tw_no hq, fun _ _ _ _ _ _ _ _ _ _ _ hq => tw_no hq, fun _ _ _ _ _ _ _ _ _ _ _ hq => tw_no hq, fun _ _ _ _ _ _ _ _ _ _ _ hq => tw_no hq, fun _ _ _ _ _ _ _ _ _ _ _ hq => tw_no hq⟩
    | succ k ih =>
      obtain ⟨ih_0, ih_1, ih_2, ih_3, ih_4, ih_5, ih_6⟩ := ih
      refine ⟨?_, ?_, ?_, ?_, ?_, ?_, ?_⟩
      · intro x1 x2 x3 r0 z H locs ls hr0 hM hl hq
        have hq : qm_X12_split_0 K (q_X12_split K k) x1 x2 x3 r0 z = some z1 := hq
        unfold qm_X12_split_0 at hq
        refine lv_iconst (v := 0) hx hb dmX12_split_0 (by decide) ?_
        refine lv_istore_n (lv' := [(1, .int 0), (0, .ref (u r0))]) hx hb dmX12_split_1 rfl hl (by decide) rfl (fun ls hl => ?_)
        exact ih_1 0 0 0 r0 z H locs ls hr0 hM (lv_sub hl [1, 0] rfl) hq
      · intro x1 x2 x3 r0 z H locs ls hr0 hM hl hq
        have hq : qm_X12_split_1 K (q_X12_split K k) x1 x2 x3 r0 z = some z1 := hq
        unfold qm_X12_split_1 at hq
        refine lv_iload_n hx hb dmX12_split_2 rfl (lv_at hl 1 rfl) ?_
        refine lv_aload_n hx hb dmX12_split_3 rfl (lv_at hl 0 rfl) ?_
        refine mg12_52 hx hb hT hown hK hM hr0 hq dmX12_split_4 (fun v1 hq => ?_)
        refine lv_icmp_ge (tgt := 23) hx hb dmX12_split_7 (by decide) (fun hc => ?_) (fun hc => ?_)
        · have hq := tw_it hq hc
          refine lv_aload_n hx hb dmX12_split_23 rfl (lv_at hl 0 rfl) ?_
          refine lv_iconst (v := 0) hx hb dmX12_split_24 (by decide) ?_
          refine mp12_69 hx hb hT hown hK hM hU hr0 hq dmX12_split_25 (fun z2 H locs hM hq => ?_)
          refine lv_iconst (v := 0) hx hb dmX12_split_28 (by decide) ?_
          refine lv_istore_n (lv' := [(1, .int 0), (0, .ref (u r0))]) hx hb dmX12_split_29 rfl hl (by decide) rfl (fun ls hl => ?_)
          exact ih_2 0 0 0 r0 z2 H locs ls hr0 hM (lv_sub hl [1, 0] rfl) hq
        · have hq := tw_if hq hc
          refine lv_aload_n hx hb dmX12_split_10 rfl (lv_at hl 0 rfl) ?_
          refine mg12_39 hx hb hT hown hK hM hr0 dmX12_split_11 ?_
          refine lv_iload_n hx hb dmX12_split_14 rfl (lv_at hl 1 rfl) ?_
          refine lv_iconst (v := (-1)) hx hb dmX12_split_15 (by decide) ?_
          refine tw_iast mX_ok hU hx hb hK hM (mrn_12 hr0) hq dmX12_split_16 (fun z3 H locs hM hq => ?_)
          refine lv_iinc (v := (x1 + 1)) (lv' := [(1, .int (x1 + 1)), (0, .ref (u r0))]) hx hb dmX12_split_17 hl (k := 1) rfl rfl (by decide) rfl (fun ls hl => ?_)
          refine lv_goto (tgt := 2) hx hb dmX12_split_20 (by decide) ?_
          exact ih_1 (x1 + 1) 0 0 r0 z3 H locs ls hr0 hM (lv_sub hl [1, 0] rfl) hq
      · intro x1 x2 x3 r0 z H locs ls hr0 hM hl hq
        have hq : qm_X12_split_2 K (q_X12_split K k) x1 x2 x3 r0 z = some z1 := hq
        unfold qm_X12_split_2 at hq
        refine lv_iload_n hx hb dmX12_split_30 rfl (lv_at hl 1 rfl) ?_
        refine lv_aload_n hx hb dmX12_split_31 rfl (lv_at hl 0 rfl) ?_
        refine mg12_52 hx hb hT hown hK hM hr0 hq dmX12_split_32 (fun v4 hq => ?_)
        refine lv_icmp_ge (tgt := 161) hx hb dmX12_split_35 (by decide) (fun hc => ?_) (fun hc => ?_)
        · have hq := tw_it hq hc
          exact mw_vret hx hb hr hlocks hM hq hQQ dmX12_split_161
        · have hq := tw_if hq hc
          refine lv_aload_n hx hb dmX12_split_38 rfl (lv_at hl 0 rfl) ?_
          refine mg12_39 hx hb hT hown hK hM hr0 dmX12_split_39 ?_
          refine lv_iload_n hx hb dmX12_split_42 rfl (lv_at hl 1 rfl) ?_
          refine tw_iald mX_ok hx hb hK hM (mrn_12 hr0) hq dmX12_split_43 (fun v5 hq => ?_)
          refine lv_iconst (v := (-1)) hx hb dmX12_split_44 (by decide) ?_
          refine lv_icmp_ne (tgt := 155) hx hb dmX12_split_45 (by decide) (fun hc => ?_) (fun hc => ?_)
          · have hq := tw_if hq hc
            exact ih_6 x1 0 0 r0 z H locs ls hr0 hM (lv_sub hl [0, 1] rfl) hq
          · have hq := tw_it hq hc
            refine lv_aload_n hx hb dmX12_split_48 rfl (lv_at hl 0 rfl) ?_
            refine mg12_39 hx hb hT hown hK hM hr0 dmX12_split_49 ?_
            refine lv_iload_n hx hb dmX12_split_52 rfl (lv_at hl 1 rfl) ?_
            refine lv_aload_n hx hb dmX12_split_53 rfl (lv_at hl 0 rfl) ?_
            refine mg12_69 hx hb hT hown hK hM hr0 hq dmX12_split_54 (fun v6 hq => ?_)
            refine tw_iast mX_ok hU hx hb hK hM (mrn_12 hr0) hq dmX12_split_57 (fun z7 H locs hM hq => ?_)
            refine lv_iconst (v := 1) hx hb dmX12_split_58 (by decide) ?_
            refine lv_istore_n (lv' := [(2, .int 1), (0, .ref (u r0)), (1, .int x1)]) hx hb dmX12_split_59 rfl hl (by decide) rfl (fun ls hl => ?_)
            exact ih_3 x1 1 0 r0 z7 H locs ls hr0 hM (lv_sub hl [1, 2, 0] rfl) hq
      · intro x1 x2 x3 r0 z H locs ls hr0 hM hl hq
        have hq : qm_X12_split_3 K (q_X12_split K k) x1 x2 x3 r0 z = some z1 := hq
        unfold qm_X12_split_3 at hq
        refine lv_iload_n hx hb dmX12_split_60 rfl (lv_at hl 2 rfl) ?_
        refine lv_if_eq (tgt := 145) hx hb dmX12_split_61 (by decide) (fun hc => ?_) (fun hc => ?_)
        · have hq := tw_it hq hc
          refine lv_aload_n hx hb dmX12_split_145 rfl (lv_at hl 0 rfl) ?_
          refine lv_dup hx hb dmX12_split_146 rfl ?_
          refine mg12_69 hx hb hT hown hK hM hr0 hq dmX12_split_147 (fun v8 hq => ?_)
          refine lv_iconst (v := 1) hx hb dmX12_split_150 (by decide) ?_
          refine lv_iadd hx hb dmX12_split_151 ?_
          refine mp12_69 hx hb hT hown hK hM hU hr0 hq dmX12_split_152 (fun z9 H locs hM hq => ?_)
          exact ih_6 x1 0 0 r0 z9 H locs ls hr0 hM (lv_sub hl [0, 1] rfl) hq
        · have hq := tw_if hq hc
          refine lv_iconst (v := 0) hx hb dmX12_split_64 (by decide) ?_
          refine lv_istore_n (lv' := [(2, .int 0), (0, .ref (u r0)), (1, .int x1)]) hx hb dmX12_split_65 rfl hl (by decide) rfl (fun ls hl => ?_)
          refine lv_iconst (v := 0) hx hb dmX12_split_66 (by decide) ?_
          refine lv_istore_n (lv' := [(3, .int 0), (2, .int 0), (0, .ref (u r0)), (1, .int x1)]) hx hb dmX12_split_67 rfl hl (by decide) rfl (fun ls hl => ?_)
          exact ih_4 x1 0 0 r0 z H locs ls hr0 hM (lv_sub hl [2, 3, 1, 0] rfl) hq
      · intro x1 x2 x3 r0 z H locs ls hr0 hM hl hq
        have hq : qm_X12_split_4 K (q_X12_split K k) x1 x2 x3 r0 z = some z1 := hq
        unfold qm_X12_split_4 at hq
        refine lv_iload_n hx hb dmX12_split_68 rfl (lv_at hl 3 rfl) ?_
        refine lv_aload_n hx hb dmX12_split_69 rfl (lv_at hl 0 rfl) ?_
        refine mg12_48 hx hb hT hown hK hM hr0 hq dmX12_split_70 (fun v10 hq => ?_)
        refine lv_icmp_ge (tgt := 142) hx hb dmX12_split_73 (by decide) (fun hc => ?_) (fun hc => ?_)
        · have hq := tw_it hq hc
          refine lv_goto (tgt := 60) hx hb dmX12_split_142 (by decide) ?_
          exact ih_3 x1 x2 0 r0 z H locs ls hr0 hM (lv_sub hl [0, 1, 2] rfl) hq
        · have hq := tw_if hq hc
          refine lv_aload_n hx hb dmX12_split_76 rfl (lv_at hl 0 rfl) ?_
          refine mg12_39 hx hb hT hown hK hM hr0 dmX12_split_77 ?_
          refine lv_aload_n hx hb dmX12_split_80 rfl (lv_at hl 0 rfl) ?_
          refine mg12_27 hx hb hT hown hK hM hr0 dmX12_split_81 ?_
          refine lv_iload_n hx hb dmX12_split_84 rfl (lv_at hl 3 rfl) ?_
          refine tw_iald mX_ok hx hb hK hM (mrn_8 hr0) hq dmX12_split_85 (fun v11 hq => ?_)
          refine tw_iald mX_ok hx hb hK hM (mrn_12 hr0) hq dmX12_split_86 (fun v12 hq => ?_)
          refine lv_aload_n hx hb dmX12_split_87 rfl (lv_at hl 0 rfl) ?_
          refine mg12_69 hx hb hT hown hK hM hr0 hq dmX12_split_88 (fun v13 hq => ?_)
          refine lv_icmp_ne (tgt := 136) hx hb dmX12_split_91 (by decide) (fun hc => ?_) (fun hc => ?_)
          · have hq := tw_if hq hc
            exact ih_5 x1 x2 x3 r0 z H locs ls hr0 hM (lv_sub hl [0, 1, 2, 3] rfl) hq
          · have hq := tw_it hq hc
            refine lv_aload_n hx hb dmX12_split_94 rfl (lv_at hl 0 rfl) ?_
            refine mg12_39 hx hb hT hown hK hM hr0 dmX12_split_95 ?_
            refine lv_aload_n hx hb dmX12_split_98 rfl (lv_at hl 0 rfl) ?_
            refine mg12_27 hx hb hT hown hK hM hr0 dmX12_split_99 ?_
            refine lv_aload_n hx hb dmX12_split_102 rfl (lv_at hl 0 rfl) ?_
            refine mg12_24 hx hb hT hown hK hM hr0 dmX12_split_103 ?_
            refine lv_iload_n hx hb dmX12_split_106 rfl (lv_at hl 3 rfl) ?_
            refine tw_iald mX_ok hx hb hK hM (mrn_7 hr0) hq dmX12_split_107 (fun v14 hq => ?_)
            refine tw_iald mX_ok hx hb hK hM (mrn_8 hr0) hq dmX12_split_108 (fun v15 hq => ?_)
            refine tw_iald mX_ok hx hb hK hM (mrn_12 hr0) hq dmX12_split_109 (fun v16 hq => ?_)
            refine lv_iconst (v := (-1)) hx hb dmX12_split_110 (by decide) ?_
            refine lv_icmp_ne (tgt := 136) hx hb dmX12_split_111 (by decide) (fun hc => ?_) (fun hc => ?_)
            · have hq := tw_if hq hc
              exact ih_5 x1 x2 x3 r0 z H locs ls hr0 hM (lv_sub hl [0, 1, 2, 3] rfl) hq
            · have hq := tw_it hq hc
              refine lv_aload_n hx hb dmX12_split_114 rfl (lv_at hl 0 rfl) ?_
              refine mg12_39 hx hb hT hown hK hM hr0 dmX12_split_115 ?_
              refine lv_aload_n hx hb dmX12_split_118 rfl (lv_at hl 0 rfl) ?_
              refine mg12_27 hx hb hT hown hK hM hr0 dmX12_split_119 ?_
              refine lv_aload_n hx hb dmX12_split_122 rfl (lv_at hl 0 rfl) ?_
              refine mg12_24 hx hb hT hown hK hM hr0 dmX12_split_123 ?_
              refine lv_iload_n hx hb dmX12_split_126 rfl (lv_at hl 3 rfl) ?_
              refine tw_iald mX_ok hx hb hK hM (mrn_7 hr0) hq dmX12_split_127 (fun v17 hq => ?_)
              refine tw_iald mX_ok hx hb hK hM (mrn_8 hr0) hq dmX12_split_128 (fun v18 hq => ?_)
              refine lv_aload_n hx hb dmX12_split_129 rfl (lv_at hl 0 rfl) ?_
              refine mg12_69 hx hb hT hown hK hM hr0 hq dmX12_split_130 (fun v19 hq => ?_)
              refine tw_iast mX_ok hU hx hb hK hM (mrn_12 hr0) hq dmX12_split_133 (fun z20 H locs hM hq => ?_)
              refine lv_iconst (v := 1) hx hb dmX12_split_134 (by decide) ?_
              refine lv_istore_n (lv' := [(2, .int 1), (0, .ref (u r0)), (1, .int x1), (3, .int x3)]) hx hb dmX12_split_135 rfl hl (by decide) rfl (fun ls hl => ?_)
              exact ih_5 x1 1 x3 r0 z20 H locs ls hr0 hM (lv_sub hl [1, 2, 0, 3] rfl) hq
      · intro x1 x2 x3 r0 z H locs ls hr0 hM hl hq
        have hq : qm_X12_split_5 K (q_X12_split K k) x1 x2 x3 r0 z = some z1 := hq
        unfold qm_X12_split_5 at hq
        refine lv_iinc (v := (x3 + 1)) (lv' := [(3, .int (x3 + 1)), (0, .ref (u r0)), (1, .int x1), (2, .int x2)]) hx hb dmX12_split_136 hl (k := 3) rfl rfl (by decide) rfl (fun ls hl => ?_)
        refine lv_goto (tgt := 68) hx hb dmX12_split_139 (by decide) ?_
        exact ih_4 x1 x2 (x3 + 1) r0 z H locs ls hr0 hM (lv_sub hl [1, 2, 3, 0] rfl) hq
      · intro x1 x2 x3 r0 z H locs ls hr0 hM hl hq
        have hq : qm_X12_split_6 K (q_X12_split K k) x1 x2 x3 r0 z = some z1 := hq
        unfold qm_X12_split_6 at hq
        refine lv_iinc (v := (x1 + 1)) (lv' := [(1, .int (x1 + 1)), (0, .ref (u r0))]) hx hb dmX12_split_155 hl (k := 1) rfl rfl (by decide) rfl (fun ls hl => ?_)
        refine lv_goto (tgt := 30) hx hb dmX12_split_158 (by decide) ?_
        exact ih_2 (x1 + 1) 0 0 r0 z H locs ls hr0 hM (lv_sub hl [1, 0] rfl) hq
  exact (key K).1 0 0 0 r0 z s.heap [] ls hr0 hM (lv_sub hl [0] rfl) hq
theorem dmX12_walk_0 : decode cX12_walk 0 = .ok (.iconst 0, 1) := dw_at cX12_walk_k0 (p := 0) rfl (by decide +kernel)
theorem dmX12_walk_1 : decode cX12_walk 1 = .ok (.istore_n 1, 1) := dw_at cX12_walk_k0 (p := 1) rfl (by decide +kernel)
theorem dmX12_walk_2 : decode cX12_walk 2 = .ok (.iload_n 1, 1) := dw_at cX12_walk_k0 (p := 2) rfl (by decide +kernel)
theorem dmX12_walk_3 : decode cX12_walk 3 = .ok (.iconst 2, 1) := dw_at cX12_walk_k0 (p := 3) rfl (by decide +kernel)
theorem dmX12_walk_4 : decode cX12_walk 4 = .ok (.aload_n 0, 1) := dw_at cX12_walk_k0 (p := 4) rfl (by decide +kernel)
theorem dmX12_walk_5 : decode cX12_walk 5 = .ok (.getfield 48, 3) := dw_at cX12_walk_k0 (p := 5) rfl (by decide +kernel)
theorem dmX12_walk_8 : decode cX12_walk 8 = .ok (.imul, 1) := dw_at cX12_walk_k0 (p := 8) rfl (by decide +kernel)
theorem dmX12_walk_9 : decode cX12_walk 9 = .ok (.if_icmp .ge 16, 3) := dw_at cX12_walk_k0 (p := 9) rfl (by decide +kernel)
theorem dmX12_walk_12 : decode cX12_walk 12 = .ok (.aload_n 0, 1) := dw_at cX12_walk_k0 (p := 12) rfl (by decide +kernel)
theorem dmX12_walk_13 : decode cX12_walk 13 = .ok (.getfield 42, 3) := dw_at cX12_walk_k0 (p := 13) rfl (by decide +kernel)
theorem dmX12_walk_16 : decode cX12_walk 16 = .ok (.iload_n 1, 1) := dw_at cX12_walk_k0 (p := 16) rfl (by decide +kernel)
theorem dmX12_walk_17 : decode cX12_walk 17 = .ok (.iconst (-1), 1) := dw_at cX12_walk_k0 (p := 17) rfl (by decide +kernel)
theorem dmX12_walk_18 : decode cX12_walk 18 = .ok (.iastore, 1) := dw_at cX12_walk_k0 (p := 18) rfl (by decide +kernel)
theorem dmX12_walk_19 : decode cX12_walk 19 = .ok (.iinc 1 1, 3) := dw_at cX12_walk_k0 (p := 19) rfl (by decide +kernel)
theorem dmX12_walk_22 : decode cX12_walk 22 = .ok (.goto (-20), 3) := dw_at cX12_walk_k0 (p := 22) rfl (by decide +kernel)
theorem dmX12_walk_25 : decode cX12_walk 25 = .ok (.aload_n 0, 1) := dw_at cX12_walk_k1 (p := 0) rfl (by decide +kernel)
theorem dmX12_walk_26 : decode cX12_walk 26 = .ok (.iconst 0, 1) := dw_at cX12_walk_k1 (p := 1) rfl (by decide +kernel)
theorem dmX12_walk_27 : decode cX12_walk 27 = .ok (.putfield 72, 3) := dw_at cX12_walk_k1 (p := 2) rfl (by decide +kernel)
theorem dmX12_walk_30 : decode cX12_walk 30 = .ok (.iconst 0, 1) := dw_at cX12_walk_k1 (p := 5) rfl (by decide +kernel)
theorem dmX12_walk_31 : decode cX12_walk 31 = .ok (.istore_n 1, 1) := dw_at cX12_walk_k1 (p := 6) rfl (by decide +kernel)
theorem dmX12_walk_32 : decode cX12_walk 32 = .ok (.iload_n 1, 1) := dw_at cX12_walk_k1 (p := 7) rfl (by decide +kernel)
theorem dmX12_walk_33 : decode cX12_walk 33 = .ok (.iconst 2, 1) := dw_at cX12_walk_k1 (p := 8) rfl (by decide +kernel)
theorem dmX12_walk_34 : decode cX12_walk 34 = .ok (.aload_n 0, 1) := dw_at cX12_walk_k1 (p := 9) rfl (by decide +kernel)
theorem dmX12_walk_35 : decode cX12_walk 35 = .ok (.getfield 48, 3) := dw_at cX12_walk_k1 (p := 10) rfl (by decide +kernel)
theorem dmX12_walk_38 : decode cX12_walk 38 = .ok (.imul, 1) := dw_at cX12_walk_k1 (p := 13) rfl (by decide +kernel)
theorem dmX12_walk_39 : decode cX12_walk 39 = .ok (.if_icmp .ge 202, 3) := dw_at cX12_walk_k1 (p := 14) rfl (by decide +kernel)
theorem dmX12_walk_42 : decode cX12_walk 42 = .ok (.aload_n 0, 1) := dw_at cX12_walk_k1 (p := 17) rfl (by decide +kernel)
theorem dmX12_walk_43 : decode cX12_walk 43 = .ok (.getfield 42, 3) := dw_at cX12_walk_k1 (p := 18) rfl (by decide +kernel)
theorem dmX12_walk_46 : decode cX12_walk 46 = .ok (.iload_n 1, 1) := dw_at cX12_walk_k1 (p := 21) rfl (by decide +kernel)
theorem dmX12_walk_47 : decode cX12_walk 47 = .ok (.iaload, 1) := dw_at cX12_walk_k1 (p := 22) rfl (by decide +kernel)
theorem dmX12_walk_48 : decode cX12_walk 48 = .ok (.iconst (-1), 1) := dw_at cX12_walk_k1 (p := 23) rfl (by decide +kernel)
theorem dmX12_walk_49 : decode cX12_walk 49 = .ok (.if_icmp .ne 186, 3) := dw_at cX12_walk_k2 (p := 0) rfl (by decide +kernel)
theorem dmX12_walk_52 : decode cX12_walk 52 = .ok (.aload_n 0, 1) := dw_at cX12_walk_k2 (p := 3) rfl (by decide +kernel)
theorem dmX12_walk_53 : decode cX12_walk 53 = .ok (.getfield 45, 3) := dw_at cX12_walk_k2 (p := 4) rfl (by decide +kernel)
theorem dmX12_walk_56 : decode cX12_walk 56 = .ok (.aload_n 0, 1) := dw_at cX12_walk_k2 (p := 7) rfl (by decide +kernel)
theorem dmX12_walk_57 : decode cX12_walk 57 = .ok (.getfield 72, 3) := dw_at cX12_walk_k2 (p := 8) rfl (by decide +kernel)
theorem dmX12_walk_60 : decode cX12_walk 60 = .ok (.iconst 0, 1) := dw_at cX12_walk_k2 (p := 11) rfl (by decide +kernel)
theorem dmX12_walk_61 : decode cX12_walk 61 = .ok (.iastore, 1) := dw_at cX12_walk_k2 (p := 12) rfl (by decide +kernel)
theorem dmX12_walk_62 : decode cX12_walk 62 = .ok (.iload_n 1, 1) := dw_at cX12_walk_k2 (p := 13) rfl (by decide +kernel)
theorem dmX12_walk_63 : decode cX12_walk 63 = .ok (.istore_n 2, 1) := dw_at cX12_walk_k2 (p := 14) rfl (by decide +kernel)
theorem dmX12_walk_64 : decode cX12_walk 64 = .ok (.aload_n 0, 1) := dw_at cX12_walk_k2 (p := 15) rfl (by decide +kernel)
theorem dmX12_walk_65 : decode cX12_walk 65 = .ok (.getfield 42, 3) := dw_at cX12_walk_k2 (p := 16) rfl (by decide +kernel)
theorem dmX12_walk_68 : decode cX12_walk 68 = .ok (.iload_n 2, 1) := dw_at cX12_walk_k2 (p := 19) rfl (by decide +kernel)
theorem dmX12_walk_69 : decode cX12_walk 69 = .ok (.iaload, 1) := dw_at cX12_walk_k2 (p := 20) rfl (by decide +kernel)
theorem dmX12_walk_70 : decode cX12_walk 70 = .ok (.iconst (-1), 1) := dw_at cX12_walk_k2 (p := 21) rfl (by decide +kernel)
theorem dmX12_walk_71 : decode cX12_walk 71 = .ok (.if_icmp .ne 154, 3) := dw_at cX12_walk_k2 (p := 22) rfl (by decide +kernel)
theorem dmX12_walk_74 : decode cX12_walk 74 = .ok (.aload_n 0, 1) := dw_at cX12_walk_k3 (p := 0) rfl (by decide +kernel)
theorem dmX12_walk_75 : decode cX12_walk 75 = .ok (.getfield 42, 3) := dw_at cX12_walk_k3 (p := 1) rfl (by decide +kernel)
theorem dmX12_walk_78 : decode cX12_walk 78 = .ok (.iload_n 2, 1) := dw_at cX12_walk_k3 (p := 4) rfl (by decide +kernel)
theorem dmX12_walk_79 : decode cX12_walk 79 = .ok (.aload_n 0, 1) := dw_at cX12_walk_k3 (p := 5) rfl (by decide +kernel)
theorem dmX12_walk_80 : decode cX12_walk 80 = .ok (.getfield 72, 3) := dw_at cX12_walk_k3 (p := 6) rfl (by decide +kernel)
theorem dmX12_walk_83 : decode cX12_walk 83 = .ok (.iastore, 1) := dw_at cX12_walk_k3 (p := 9) rfl (by decide +kernel)
theorem dmX12_walk_84 : decode cX12_walk 84 = .ok (.aload_n 0, 1) := dw_at cX12_walk_k3 (p := 10) rfl (by decide +kernel)
theorem dmX12_walk_85 : decode cX12_walk 85 = .ok (.getfield 45, 3) := dw_at cX12_walk_k3 (p := 11) rfl (by decide +kernel)
theorem dmX12_walk_88 : decode cX12_walk 88 = .ok (.aload_n 0, 1) := dw_at cX12_walk_k3 (p := 14) rfl (by decide +kernel)
theorem dmX12_walk_89 : decode cX12_walk 89 = .ok (.getfield 72, 3) := dw_at cX12_walk_k3 (p := 15) rfl (by decide +kernel)
theorem dmX12_walk_92 : decode cX12_walk 92 = .ok (.dup2, 1) := dw_at cX12_walk_k3 (p := 18) rfl (by decide +kernel)
theorem dmX12_walk_93 : decode cX12_walk 93 = .ok (.iaload, 1) := dw_at cX12_walk_k3 (p := 19) rfl (by decide +kernel)
theorem dmX12_walk_94 : decode cX12_walk 94 = .ok (.iconst 1, 1) := dw_at cX12_walk_k3 (p := 20) rfl (by decide +kernel)
theorem dmX12_walk_95 : decode cX12_walk 95 = .ok (.iadd, 1) := dw_at cX12_walk_k3 (p := 21) rfl (by decide +kernel)
theorem dmX12_walk_96 : decode cX12_walk 96 = .ok (.iastore, 1) := dw_at cX12_walk_k3 (p := 22) rfl (by decide +kernel)
theorem dmX12_walk_97 : decode cX12_walk 97 = .ok (.iload_n 2, 1) := dw_at cX12_walk_k3 (p := 23) rfl (by decide +kernel)
theorem dmX12_walk_98 : decode cX12_walk 98 = .ok (.iconst 1, 1) := dw_at cX12_walk_k4 (p := 0) rfl (by decide +kernel)
theorem dmX12_walk_99 : decode cX12_walk 99 = .ok (.iand, 1) := dw_at cX12_walk_k4 (p := 1) rfl (by decide +kernel)
theorem dmX12_walk_100 : decode cX12_walk 100 = .ok (.ifCond .ne 14, 3) := dw_at cX12_walk_k4 (p := 2) rfl (by decide +kernel)
theorem dmX12_walk_103 : decode cX12_walk 103 = .ok (.aload_n 0, 1) := dw_at cX12_walk_k4 (p := 5) rfl (by decide +kernel)
theorem dmX12_walk_104 : decode cX12_walk 104 = .ok (.getfield 30, 3) := dw_at cX12_walk_k4 (p := 6) rfl (by decide +kernel)
theorem dmX12_walk_107 : decode cX12_walk 107 = .ok (.iload_n 2, 1) := dw_at cX12_walk_k4 (p := 9) rfl (by decide +kernel)
theorem dmX12_walk_108 : decode cX12_walk 108 = .ok (.iconst 1, 1) := dw_at cX12_walk_k4 (p := 10) rfl (by decide +kernel)
theorem dmX12_walk_109 : decode cX12_walk 109 = .ok (.ishr, 1) := dw_at cX12_walk_k4 (p := 11) rfl (by decide +kernel)
theorem dmX12_walk_110 : decode cX12_walk 110 = .ok (.iaload, 1) := dw_at cX12_walk_k4 (p := 12) rfl (by decide +kernel)
theorem dmX12_walk_111 : decode cX12_walk 111 = .ok (.goto 6, 3) := dw_at cX12_walk_k4 (p := 13) rfl (by decide +kernel)
theorem dmX12_walk_114 : decode cX12_walk 114 = .ok (.iload_n 2, 1) := dw_at cX12_walk_k4 (p := 16) rfl (by decide +kernel)
theorem dmX12_walk_115 : decode cX12_walk 115 = .ok (.iconst 1, 1) := dw_at cX12_walk_k4 (p := 17) rfl (by decide +kernel)
theorem dmX12_walk_116 : decode cX12_walk 116 = .ok (.ishr, 1) := dw_at cX12_walk_k4 (p := 18) rfl (by decide +kernel)
theorem dmX12_walk_117 : decode cX12_walk 117 = .ok (.istore_n 3, 1) := dw_at cX12_walk_k4 (p := 19) rfl (by decide +kernel)
theorem dmX12_walk_118 : decode cX12_walk 118 = .ok (.aload_n 0, 1) := dw_at cX12_walk_k4 (p := 20) rfl (by decide +kernel)
theorem dmX12_walk_119 : decode cX12_walk 119 = .ok (.getfield 18, 3) := dw_at cX12_walk_k4 (p := 21) rfl (by decide +kernel)
theorem dmX12_walk_122 : decode cX12_walk 122 = .ok (.iload_n 3, 1) := dw_at cX12_walk_k5 (p := 0) rfl (by decide +kernel)
theorem dmX12_walk_123 : decode cX12_walk 123 = .ok (.iaload, 1) := dw_at cX12_walk_k5 (p := 1) rfl (by decide +kernel)
theorem dmX12_walk_124 : decode cX12_walk 124 = .ok (.ifCond .ne 17, 3) := dw_at cX12_walk_k5 (p := 2) rfl (by decide +kernel)
theorem dmX12_walk_127 : decode cX12_walk 127 = .ok (.aload_n 0, 1) := dw_at cX12_walk_k5 (p := 5) rfl (by decide +kernel)
theorem dmX12_walk_128 : decode cX12_walk 128 = .ok (.getfield 21, 3) := dw_at cX12_walk_k5 (p := 6) rfl (by decide +kernel)
theorem dmX12_walk_131 : decode cX12_walk 131 = .ok (.aload_n 0, 1) := dw_at cX12_walk_k5 (p := 9) rfl (by decide +kernel)
theorem dmX12_walk_132 : decode cX12_walk 132 = .ok (.getfield 15, 3) := dw_at cX12_walk_k5 (p := 10) rfl (by decide +kernel)
theorem dmX12_walk_135 : decode cX12_walk 135 = .ok (.iload_n 3, 1) := dw_at cX12_walk_k5 (p := 13) rfl (by decide +kernel)
theorem dmX12_walk_136 : decode cX12_walk 136 = .ok (.iaload, 1) := dw_at cX12_walk_k5 (p := 14) rfl (by decide +kernel)
theorem dmX12_walk_137 : decode cX12_walk 137 = .ok (.iaload, 1) := dw_at cX12_walk_k5 (p := 15) rfl (by decide +kernel)
theorem dmX12_walk_138 : decode cX12_walk 138 = .ok (.ifCond .gt 27, 3) := dw_at cX12_walk_k5 (p := 16) rfl (by decide +kernel)
theorem dmX12_walk_141 : decode cX12_walk 141 = .ok (.aload_n 0, 1) := dw_at cX12_walk_k5 (p := 19) rfl (by decide +kernel)
theorem dmX12_walk_142 : decode cX12_walk 142 = .ok (.getfield 18, 3) := dw_at cX12_walk_k5 (p := 20) rfl (by decide +kernel)
theorem dmX12_walk_145 : decode cX12_walk 145 = .ok (.iload_n 3, 1) := dw_at cX12_walk_k5 (p := 23) rfl (by decide +kernel)
theorem dmX12_walk_146 : decode cX12_walk 146 = .ok (.iaload, 1) := dw_at cX12_walk_k6 (p := 0) rfl (by decide +kernel)
theorem dmX12_walk_147 : decode cX12_walk 147 = .ok (.iconst 1, 1) := dw_at cX12_walk_k6 (p := 1) rfl (by decide +kernel)
theorem dmX12_walk_148 : decode cX12_walk 148 = .ok (.if_icmp .ne 21, 3) := dw_at cX12_walk_k6 (p := 2) rfl (by decide +kernel)
theorem dmX12_walk_151 : decode cX12_walk 151 = .ok (.aload_n 0, 1) := dw_at cX12_walk_k6 (p := 5) rfl (by decide +kernel)
theorem dmX12_walk_152 : decode cX12_walk 152 = .ok (.getfield 21, 3) := dw_at cX12_walk_k6 (p := 6) rfl (by decide +kernel)
theorem dmX12_walk_155 : decode cX12_walk 155 = .ok (.aload_n 0, 1) := dw_at cX12_walk_k6 (p := 9) rfl (by decide +kernel)
theorem dmX12_walk_156 : decode cX12_walk 156 = .ok (.getfield 15, 3) := dw_at cX12_walk_k6 (p := 10) rfl (by decide +kernel)
theorem dmX12_walk_159 : decode cX12_walk 159 = .ok (.iload_n 3, 1) := dw_at cX12_walk_k6 (p := 13) rfl (by decide +kernel)
theorem dmX12_walk_160 : decode cX12_walk 160 = .ok (.iaload, 1) := dw_at cX12_walk_k6 (p := 14) rfl (by decide +kernel)
theorem dmX12_walk_161 : decode cX12_walk 161 = .ok (.iaload, 1) := dw_at cX12_walk_k6 (p := 15) rfl (by decide +kernel)
theorem dmX12_walk_162 : decode cX12_walk 162 = .ok (.ifCond .ge 7, 3) := dw_at cX12_walk_k6 (p := 16) rfl (by decide +kernel)
theorem dmX12_walk_165 : decode cX12_walk 165 = .ok (.iconst 1, 1) := dw_at cX12_walk_k6 (p := 19) rfl (by decide +kernel)
theorem dmX12_walk_166 : decode cX12_walk 166 = .ok (.goto 4, 3) := dw_at cX12_walk_k6 (p := 20) rfl (by decide +kernel)
theorem dmX12_walk_169 : decode cX12_walk 169 = .ok (.iconst 0, 1) := dw_at cX12_walk_k6 (p := 23) rfl (by decide +kernel)
theorem dmX12_walk_170 : decode cX12_walk 170 = .ok (.istore 4, 2) := dw_at cX12_walk_k7 (p := 0) rfl (by decide +kernel)
theorem dmX12_walk_172 : decode cX12_walk 172 = .ok (.iload 4, 2) := dw_at cX12_walk_k7 (p := 2) rfl (by decide +kernel)
theorem dmX12_walk_174 : decode cX12_walk 174 = .ok (.ifCond .eq 9, 3) := dw_at cX12_walk_k7 (p := 4) rfl (by decide +kernel)
theorem dmX12_walk_177 : decode cX12_walk 177 = .ok (.iload_n 2, 1) := dw_at cX12_walk_k7 (p := 7) rfl (by decide +kernel)
theorem dmX12_walk_178 : decode cX12_walk 178 = .ok (.iconst 1, 1) := dw_at cX12_walk_k7 (p := 8) rfl (by decide +kernel)
theorem dmX12_walk_179 : decode cX12_walk 179 = .ok (.iand, 1) := dw_at cX12_walk_k7 (p := 9) rfl (by decide +kernel)
theorem dmX12_walk_180 : decode cX12_walk 180 = .ok (.goto 8, 3) := dw_at cX12_walk_k7 (p := 10) rfl (by decide +kernel)
theorem dmX12_walk_183 : decode cX12_walk 183 = .ok (.iconst 1, 1) := dw_at cX12_walk_k7 (p := 13) rfl (by decide +kernel)
theorem dmX12_walk_184 : decode cX12_walk 184 = .ok (.iload_n 2, 1) := dw_at cX12_walk_k7 (p := 14) rfl (by decide +kernel)
theorem dmX12_walk_185 : decode cX12_walk 185 = .ok (.iconst 1, 1) := dw_at cX12_walk_k7 (p := 15) rfl (by decide +kernel)
theorem dmX12_walk_186 : decode cX12_walk 186 = .ok (.iand, 1) := dw_at cX12_walk_k7 (p := 16) rfl (by decide +kernel)
theorem dmX12_walk_187 : decode cX12_walk 187 = .ok (.isub, 1) := dw_at cX12_walk_k7 (p := 17) rfl (by decide +kernel)
theorem dmX12_walk_188 : decode cX12_walk 188 = .ok (.istore 5, 2) := dw_at cX12_walk_k7 (p := 18) rfl (by decide +kernel)
theorem dmX12_walk_190 : decode cX12_walk 190 = .ok (.aload_n 0, 1) := dw_at cX12_walk_k7 (p := 20) rfl (by decide +kernel)
theorem dmX12_walk_191 : decode cX12_walk 191 = .ok (.getfield 24, 3) := dw_at cX12_walk_k7 (p := 21) rfl (by decide +kernel)
theorem dmX12_walk_194 : decode cX12_walk 194 = .ok (.iload_n 3, 1) := dw_at cX12_walk_k8 (p := 0) rfl (by decide +kernel)
theorem dmX12_walk_195 : decode cX12_walk 195 = .ok (.iaload, 1) := dw_at cX12_walk_k8 (p := 1) rfl (by decide +kernel)
theorem dmX12_walk_196 : decode cX12_walk 196 = .ok (.istore 6, 2) := dw_at cX12_walk_k8 (p := 2) rfl (by decide +kernel)
theorem dmX12_walk_198 : decode cX12_walk 198 = .ok (.iload 5, 2) := dw_at cX12_walk_k8 (p := 4) rfl (by decide +kernel)
theorem dmX12_walk_200 : decode cX12_walk 200 = .ok (.ifCond .ne 10, 3) := dw_at cX12_walk_k8 (p := 6) rfl (by decide +kernel)
theorem dmX12_walk_203 : decode cX12_walk 203 = .ok (.iconst 2, 1) := dw_at cX12_walk_k8 (p := 9) rfl (by decide +kernel)
theorem dmX12_walk_204 : decode cX12_walk 204 = .ok (.iload 6, 2) := dw_at cX12_walk_k8 (p := 10) rfl (by decide +kernel)
theorem dmX12_walk_206 : decode cX12_walk 206 = .ok (.imul, 1) := dw_at cX12_walk_k8 (p := 12) rfl (by decide +kernel)
theorem dmX12_walk_207 : decode cX12_walk 207 = .ok (.goto 14, 3) := dw_at cX12_walk_k8 (p := 13) rfl (by decide +kernel)
theorem dmX12_walk_210 : decode cX12_walk 210 = .ok (.iconst 2, 1) := dw_at cX12_walk_k8 (p := 16) rfl (by decide +kernel)
theorem dmX12_walk_211 : decode cX12_walk 211 = .ok (.aload_n 0, 1) := dw_at cX12_walk_k8 (p := 17) rfl (by decide +kernel)
theorem dmX12_walk_212 : decode cX12_walk 212 = .ok (.getfield 33, 3) := dw_at cX12_walk_k8 (p := 18) rfl (by decide +kernel)
theorem dmX12_walk_215 : decode cX12_walk 215 = .ok (.iload 6, 2) := dw_at cX12_walk_k8 (p := 21) rfl (by decide +kernel)
theorem dmX12_walk_217 : decode cX12_walk 217 = .ok (.iaload, 1) := dw_at cX12_walk_k8 (p := 23) rfl (by decide +kernel)
theorem dmX12_walk_218 : decode cX12_walk 218 = .ok (.imul, 1) := dw_at cX12_walk_k9 (p := 0) rfl (by decide +kernel)
theorem dmX12_walk_219 : decode cX12_walk 219 = .ok (.iconst 1, 1) := dw_at cX12_walk_k9 (p := 1) rfl (by decide +kernel)
theorem dmX12_walk_220 : decode cX12_walk 220 = .ok (.iadd, 1) := dw_at cX12_walk_k9 (p := 2) rfl (by decide +kernel)
theorem dmX12_walk_221 : decode cX12_walk 221 = .ok (.istore_n 2, 1) := dw_at cX12_walk_k9 (p := 3) rfl (by decide +kernel)
theorem dmX12_walk_222 : decode cX12_walk 222 = .ok (.goto (-158), 3) := dw_at cX12_walk_k9 (p := 4) rfl (by decide +kernel)
theorem dmX12_walk_225 : decode cX12_walk 225 = .ok (.aload_n 0, 1) := dw_at cX12_walk_k9 (p := 7) rfl (by decide +kernel)
theorem dmX12_walk_226 : decode cX12_walk 226 = .ok (.dup, 1) := dw_at cX12_walk_k9 (p := 8) rfl (by decide +kernel)
theorem dmX12_walk_227 : decode cX12_walk 227 = .ok (.getfield 72, 3) := dw_at cX12_walk_k9 (p := 9) rfl (by decide +kernel)
theorem dmX12_walk_230 : decode cX12_walk 230 = .ok (.iconst 1, 1) := dw_at cX12_walk_k9 (p := 12) rfl (by decide +kernel)
theorem dmX12_walk_231 : decode cX12_walk 231 = .ok (.iadd, 1) := dw_at cX12_walk_k9 (p := 13) rfl (by decide +kernel)
theorem dmX12_walk_232 : decode cX12_walk 232 = .ok (.putfield 72, 3) := dw_at cX12_walk_k9 (p := 14) rfl (by decide +kernel)
theorem dmX12_walk_235 : decode cX12_walk 235 = .ok (.iinc 1 1, 3) := dw_at cX12_walk_k9 (p := 17) rfl (by decide +kernel)
theorem dmX12_walk_238 : decode cX12_walk 238 = .ok (.goto (-206), 3) := dw_at cX12_walk_k9 (p := 20) rfl (by decide +kernel)
theorem dmX12_walk_241 : decode cX12_walk 241 = .ok (.return_, 1) := dw_at cX12_walk_k9 (p := 23) rfl (by decide +kernel)
def qm_X12_walk_0 (K : Nat) (go : Nat → Int32 → Int32 → Int32 → Int32 → Int32 → Int32 → Nat → Int32 → ow_MS → Option ow_MS) (x1 : Int32) (x2 : Int32) (x3 : Int32) (x4 : Int32) (x5 : Int32) (x6 : Int32) (r0 : Nat) (t0 : Int32) (z : ow_MS) : Option ow_MS :=
 go 1 0 0 0 0 0 0 r0 0 z
def qm_X12_walk_1 (K : Nat) (go : Nat → Int32 → Int32 → Int32 → Int32 → Int32 → Int32 → Nat → Int32 → ow_MS → Option ow_MS) (x1 : Int32) (x2 : Int32) (x3 : Int32) (x4 : Int32) (x5 : Int32) (x6 : Int32) (r0 : Nat) (t0 : Int32) (z : ow_MS) : Option ow_MS :=
 rdF z (r0 + 1) fun v1 => (if (2 * v1) ≤ x1 then wrF z (r0 + 16) 0 fun z2 => go 2 0 0 0 0 0 0 r0 0 z2
 else wrI mX z (r0 + 14) x1 (-1) fun z3 => go 1 (x1 + 1) 0 0 0 0 0 r0 0 z3)
def qm_X12_walk_2 (K : Nat) (go : Nat → Int32 → Int32 → Int32 → Int32 → Int32 → Int32 → Nat → Int32 → ow_MS → Option ow_MS) (x1 : Int32) (x2 : Int32) (x3 : Int32) (x4 : Int32) (x5 : Int32) (x6 : Int32) (r0 : Nat) (t0 : Int32) (z : ow_MS) : Option ow_MS :=
 rdF z (r0 + 1) fun v4 => (if (2 * v4) ≤ x1 then some z
 else rdI mX z (r0 + 14) x1 fun v5 => (if v5 = (-1) then rdF z (r0 + 16) fun v6 => wrI mX z (r0 + 15) v6 0 fun z7 => go 3 x1 x1 0 0 0 0 r0 0 z7
 else go 11 x1 0 0 0 0 0 r0 0 z))
def qm_X12_walk_3 (K : Nat) (go : Nat → Int32 → Int32 → Int32 → Int32 → Int32 → Int32 → Nat → Int32 → ow_MS → Option ow_MS) (x1 : Int32) (x2 : Int32) (x3 : Int32) (x4 : Int32) (x5 : Int32) (x6 : Int32) (r0 : Nat) (t0 : Int32) (z : ow_MS) : Option ow_MS :=
 rdI mX z (r0 + 14) x2 fun v8 => (if v8 = (-1) then rdF z (r0 + 16) fun v11 => wrI mX z (r0 + 14) x2 v11 fun z12 => rdF z12 (r0 + 16) fun v13 => rdI mX z12 (r0 + 15) v13 fun v14 => wrI mX z12 (r0 + 15) v13 (v14 + 1) fun z15 => (if (x2 &&& 1) = 0 then rdI mX z15 (r0 + 9) ((x2 : Int32) >>> ((1 : Int32) &&& 31)) fun v16 => go 4 x1 x2 0 0 0 0 r0 v16 z15
 else go 4 x1 x2 0 0 0 0 r0 ((x2 : Int32) >>> ((1 : Int32) &&& 31)) z15)
 else rdF z (r0 + 16) fun v9 => wrF z (r0 + 16) (v9 + 1) fun z10 => go 11 x1 0 0 0 0 0 r0 0 z10)
def qm_X12_walk_4 (K : Nat) (go : Nat → Int32 → Int32 → Int32 → Int32 → Int32 → Int32 → Nat → Int32 → ow_MS → Option ow_MS) (x1 : Int32) (x2 : Int32) (x3 : Int32) (x4 : Int32) (x5 : Int32) (x6 : Int32) (r0 : Nat) (t0 : Int32) (z : ow_MS) : Option ow_MS :=
 rdI mX z (r0 + 5) t0 fun v17 => (if v17 = 0 then rdI mX z (r0 + 4) t0 fun v18 => rdI mX z (r0 + 6) v18 fun v19 => (if 0 < v19 then go 6 x1 x2 t0 0 0 0 r0 0 z
 else go 5 x1 x2 t0 0 0 0 r0 0 z)
 else go 5 x1 x2 t0 0 0 0 r0 0 z)
def qm_X12_walk_5 (K : Nat) (go : Nat → Int32 → Int32 → Int32 → Int32 → Int32 → Int32 → Nat → Int32 → ow_MS → Option ow_MS) (x1 : Int32) (x2 : Int32) (x3 : Int32) (x4 : Int32) (x5 : Int32) (x6 : Int32) (r0 : Nat) (t0 : Int32) (z : ow_MS) : Option ow_MS :=
 rdI mX z (r0 + 5) x3 fun v20 => (if v20 = 1 then rdI mX z (r0 + 4) x3 fun v21 => rdI mX z (r0 + 6) v21 fun v22 => (if 0 ≤ v22 then go 7 x1 x2 x3 0 0 0 r0 0 z
 else go 6 x1 x2 x3 0 0 0 r0 0 z)
 else go 7 x1 x2 x3 0 0 0 r0 0 z)
def qm_X12_walk_6 (K : Nat) (go : Nat → Int32 → Int32 → Int32 → Int32 → Int32 → Int32 → Nat → Int32 → ow_MS → Option ow_MS) (x1 : Int32) (x2 : Int32) (x3 : Int32) (x4 : Int32) (x5 : Int32) (x6 : Int32) (r0 : Nat) (t0 : Int32) (z : ow_MS) : Option ow_MS :=
 go 8 x1 x2 x3 0 0 0 r0 1 z
def qm_X12_walk_7 (K : Nat) (go : Nat → Int32 → Int32 → Int32 → Int32 → Int32 → Int32 → Nat → Int32 → ow_MS → Option ow_MS) (x1 : Int32) (x2 : Int32) (x3 : Int32) (x4 : Int32) (x5 : Int32) (x6 : Int32) (r0 : Nat) (t0 : Int32) (z : ow_MS) : Option ow_MS :=
 go 8 x1 x2 x3 0 0 0 r0 0 z
def qm_X12_walk_8 (K : Nat) (go : Nat → Int32 → Int32 → Int32 → Int32 → Int32 → Int32 → Nat → Int32 → ow_MS → Option ow_MS) (x1 : Int32) (x2 : Int32) (x3 : Int32) (x4 : Int32) (x5 : Int32) (x6 : Int32) (r0 : Nat) (t0 : Int32) (z : ow_MS) : Option ow_MS :=
 (if t0 = 0 then go 9 x1 x2 x3 t0 0 0 r0 (1 - (x2 &&& 1)) z
 else go 9 x1 x2 x3 t0 0 0 r0 (x2 &&& 1) z)
def qm_X12_walk_9 (K : Nat) (go : Nat → Int32 → Int32 → Int32 → Int32 → Int32 → Int32 → Nat → Int32 → ow_MS → Option ow_MS) (x1 : Int32) (x2 : Int32) (x3 : Int32) (x4 : Int32) (x5 : Int32) (x6 : Int32) (r0 : Nat) (t0 : Int32) (z : ow_MS) : Option ow_MS :=
 rdI mX z (r0 + 7) x3 fun v23 => (if t0 = 0 then go 10 x1 x2 x3 x4 t0 v23 r0 (2 * v23) z
 else rdI mX z (r0 + 10) v23 fun v24 => go 10 x1 x2 x3 x4 t0 v23 r0 ((2 * v24) + 1) z)
def qm_X12_walk_10 (K : Nat) (go : Nat → Int32 → Int32 → Int32 → Int32 → Int32 → Int32 → Nat → Int32 → ow_MS → Option ow_MS) (x1 : Int32) (x2 : Int32) (x3 : Int32) (x4 : Int32) (x5 : Int32) (x6 : Int32) (r0 : Nat) (t0 : Int32) (z : ow_MS) : Option ow_MS :=
 go 3 x1 t0 0 0 0 0 r0 0 z
def qm_X12_walk_11 (K : Nat) (go : Nat → Int32 → Int32 → Int32 → Int32 → Int32 → Int32 → Nat → Int32 → ow_MS → Option ow_MS) (x1 : Int32) (x2 : Int32) (x3 : Int32) (x4 : Int32) (x5 : Int32) (x6 : Int32) (r0 : Nat) (t0 : Int32) (z : ow_MS) : Option ow_MS :=
 go 2 (x1 + 1) 0 0 0 0 0 r0 0 z
def qb_X12_walk (K : Nat) (go : Nat → Int32 → Int32 → Int32 → Int32 → Int32 → Int32 → Nat → Int32 → ow_MS → Option ow_MS) (L : Nat) (x1 : Int32) (x2 : Int32) (x3 : Int32) (x4 : Int32) (x5 : Int32) (x6 : Int32) (r0 : Nat) (t0 : Int32) (z : ow_MS) : Option ow_MS := match L with
  | 0 => qm_X12_walk_0 K go x1 x2 x3 x4 x5 x6 r0 t0 z
  | 1 => qm_X12_walk_1 K go x1 x2 x3 x4 x5 x6 r0 t0 z
  | 2 => qm_X12_walk_2 K go x1 x2 x3 x4 x5 x6 r0 t0 z
  | 3 => qm_X12_walk_3 K go x1 x2 x3 x4 x5 x6 r0 t0 z
  | 4 => qm_X12_walk_4 K go x1 x2 x3 x4 x5 x6 r0 t0 z
  | 5 => qm_X12_walk_5 K go x1 x2 x3 x4 x5 x6 r0 t0 z
  | 6 => qm_X12_walk_6 K go x1 x2 x3 x4 x5 x6 r0 t0 z
  | 7 => qm_X12_walk_7 K go x1 x2 x3 x4 x5 x6 r0 t0 z
  | 8 => qm_X12_walk_8 K go x1 x2 x3 x4 x5 x6 r0 t0 z
  | 9 => qm_X12_walk_9 K go x1 x2 x3 x4 x5 x6 r0 t0 z
  | 10 => qm_X12_walk_10 K go x1 x2 x3 x4 x5 x6 r0 t0 z
  | 11 => qm_X12_walk_11 K go x1 x2 x3 x4 x5 x6 r0 t0 z
  | _ => none
def q_X12_walk (K : Nat) : Nat → Nat → Int32 → Int32 → Int32 → Int32 → Int32 → Int32 → Nat → Int32 → ow_MS → Option ow_MS
  | 0 => fun _ _ _ _ _ _ _ _ _ _ => none
  | k + 1 => qb_X12_walk K (q_X12_walk K k)
def qe_X12_walk (K : Nat) (r0 : Nat) (z : ow_MS) : Option ow_MS := q_X12_walk K K 0 0 0 0 0 0 0 r0 0 z
abbrev wm_X12_walk : List Cond := .code yX12_walk cX12_walk 7 none :: wM
theorem cd_X12_walk : yX12_walk.cls = RX12 ∧ yX12_walk.cls ≠ "java/lang/invoke/MethodHandle" ∧ yX12_walk.cls ≠ "java/lang/invoke/VarHandle" ∧ (parseMethodDescriptor yX12_walk.desc).map (fun d => d.parameters.length) = some 0 := by decide +kernel
set_option maxHeartbeats 4000000 in
set_option maxRecDepth 100000 in
theorem km_X12_walk (l : Launch) (D : va_G) (q : ow_Q5) (u : Nat → Nat) (hU : tw_inj mX u) (K : Nat) (r0 : Nat) (hr0 : mw_net r0) (z z1 : ow_MS) (hq : qe_X12_walk K r0 z = some z1) : Met l yX12_walk wm_X12_walk ({ frames := 0, cells := 0, slots := 0, locals := 0 } : Room) (va_Pc [.ref (u r0)] (mw_pre D q u z)) (va_Qv (fun (_ : Unit) => True) (fun _ t => va_P D vwCl (tw mX q u z1) t.heap) (tw_A mX u)) 0 0 (tw_A mX u) := by
  refine Met.ofW (cc := cX12_walk) (maxL := 7) (ret := none) (by decide) rfl ?_
  intro p e s m args below meth c s₁ B hml hv
  obtain ⟨rfl, hP, hK, hN⟩ := hv
  have hx := B.exec
  have hb := B.bytes
  have hr := B.returns
  have hts := atoms_spec (ws := wm_X12_walk) B.pre
  have hT : ∀ w ∈ wM, w.before ([.ref (u r0)] : List Value).toArray s = true := fun w h => hts w (List.mem_cons_of_mem _ h)
  have hown : s.vm.findClass RX12 = some m.cls := findClass_of_methodNamed B.named
  have hlocks := B.notSynchronized
  have hM : tw_M D vwCl mX q s.heap u z s.heap [] := ⟨hP, va_S.rf⟩
  have hl := lv_entry ([.ref (u r0)]) (n := 7) (Nat.le_of_ble_eq_true rfl)
  rw [lg_entry_eq]
  generalize (lg_sl ([.ref (u r0)]) ++ List.replicate (7 - (lg_sl ([.ref (u r0)])).length) Slot.unset).toArray = ls at hl ⊢
  have hl : lv_has ls 7 [(0, .ref (u r0))] := hl
  refine ow_named (fun QQ hQQ => ?_)
  generalize ([.ref (u r0)] : List Value).toArray = args at hts hT hQQ ⊢
  have key : ∀ k : Nat, (∀ (x1 : Int32) (x2 : Int32) (x3 : Int32) (x4 : Int32) (x5 : Int32) (x6 : Int32) (r0 : Nat) (t0 : Int32) (z : ow_MS) (H : Heap) (locs : List Loc) (ls : Array Slot), mw_net r0 → tw_M D vwCl mX q s.heap u z H locs → lv_has ls 7 [(0, .ref (u r0))] → q_X12_walk K k 0 x1 x2 x3 x4 x5 x6 r0 t0 z = some z1 → W p l e ({ frames := 0, cells := 0, slots := 0, locals := 0 } : Room) s m args below meth c H locs 0 0 QQ (F0 m 0 ls [])) ∧ (∀ (x1 : Int32) (x2 : Int32) (x3 : Int32) (x4 : Int32) (x5 : Int32) (x6 : Int32) (r0 : Nat) (t0 : Int32) (z : ow_MS) (H : Heap) (locs : List Loc) (ls : Array Slot), mw_net r0 → tw_M D vwCl mX q s.heap u z H locs → lv_has ls 7 [(0, .ref (u r0)), (1, .int x1)] → q_X12_walk K k 1 x1 x2 x3 x4 x5 x6 r0 t0 z = some z1 → W p l e ({ frames := 0, cells := 0, slots := 0, locals := 0 } : Room) s m args below meth c H locs 0 0 QQ (F0 m 2 ls [])) ∧ (∀ (x1 : Int32) (x2 : Int32) (x3 : Int32) (x4 : Int32) (x5 : Int32) (x6 : Int32) (r0 : Nat) (t0 : Int32) (z : ow_MS) (H : Heap) (locs : List Loc) (ls : Array Slot), mw_net r0 → tw_M D vwCl mX q s.heap u z H locs → lv_has ls 7 [(0, .ref (u r0)), (1, .int x1)] → q_X12_walk K k 2 x1 x2 x3 x4 x5 x6 r0 t0 z = some z1 → W p l e ({ frames := 0, cells := 0, slots := 0, locals := 0 } : Room) s m args below meth c H locs 0 0 QQ (F0 m 32 ls [])) ∧ (∀ (x1 : Int32) (x2 : Int32) (x3 : Int32) (x4 : Int32) (x5 : Int32) (x6 : Int32) (r0 : Nat) (t0 : Int32) (z : ow_MS) (H : Heap) (locs : List Loc) (ls : Array Slot), mw_net r0 → tw_M D vwCl mX q s.heap u z H locs → lv_has ls 7 [(0, .ref (u r0)), (1, .int x1), (2, .int x2)] → q_X12_walk K k 3 x1 x2 x3 x4 x5 x6 r0 t0 z = some z1 → W p l e ({ frames := 0, cells := 0, slots := 0, locals := 0 } : Room) s m args below meth c H locs 0 0 QQ (F0 m 64 ls [])) ∧ (∀ (x1 : Int32) (x2 : Int32) (x3 : Int32) (x4 : Int32) (x5 : Int32) (x6 : Int32) (r0 : Nat) (t0 : Int32) (z : ow_MS) (H : Heap) (locs : List Loc) (ls : Array Slot), mw_net r0 → tw_M D vwCl mX q s.heap u z H locs → lv_has ls 7 [(0, .ref (u r0)), (1, .int x1), (2, .int x2)] → q_X12_walk K k 4 x1 x2 x3 x4 x5 x6 r0 t0 z = some z1 → W p l e ({ frames := 0, cells := 0, slots := 0, locals := 0 } : Room) s m args below meth c H locs 0 0 QQ (F0 m 117 ls [.int t0])) ∧ (∀ (x1 : Int32) (x2 : Int32) (x3 : Int32) (x4 : Int32) (x5 : Int32) (x6 : Int32) (r0 : Nat) (t0 : Int32) (z : ow_MS) (H : Heap) (locs : List Loc) (ls : Array Slot), mw_net r0 → tw_M D vwCl mX q s.heap u z H locs → lv_has ls 7 [(0, .ref (u r0)), (1, .int x1), (2, .int x2), (3, .int x3)] → q_X12_walk K k 5 x1 x2 x3 x4 x5 x6 r0 t0 z = some z1 → W p l e ({ frames := 0, cells := 0, slots := 0, locals := 0 } : Room) s m args below meth c H locs 0 0 QQ (F0 m 141 ls [])) ∧ (∀ (x1 : Int32) (x2 : Int32) (x3 : Int32) (x4 : Int32) (x5 : Int32) (x6 : Int32) (r0 : Nat) (t0 : Int32) (z : ow_MS) (H : Heap) (locs : List Loc) (ls : Array Slot), mw_net r0 → tw_M D vwCl mX q s.heap u z H locs → lv_has ls 7 [(0, .ref (u r0)), (1, .int x1), (2, .int x2), (3, .int x3)] → q_X12_walk K k 6 x1 x2 x3 x4 x5 x6 r0 t0 z = some z1 → W p l e ({ frames := 0, cells := 0, slots := 0, locals := 0 } : Room) s m args below meth c H locs 0 0 QQ (F0 m 165 ls [])) ∧ (∀ (x1 : Int32) (x2 : Int32) (x3 : Int32) (x4 : Int32) (x5 : Int32) (x6 : Int32) (r0 : Nat) (t0 : Int32) (z : ow_MS) (H : Heap) (locs : List Loc) (ls : Array Slot), mw_net r0 → tw_M D vwCl mX q s.heap u z H locs → lv_has ls 7 [(0, .ref (u r0)), (1, .int x1), (2, .int x2), (3, .int x3)] → q_X12_walk K k 7 x1 x2 x3 x4 x5 x6 r0 t0 z = some z1 → W p l e ({ frames := 0, cells := 0, slots := 0, locals := 0 } : Room) s m args below meth c H locs 0 0 QQ (F0 m 169 ls [])) ∧ (∀ (x1 : Int32) (x2 : Int32) (x3 : Int32) (x4 : Int32) (x5 : Int32) (x6 : Int32) (r0 : Nat) (t0 : Int32) (z : ow_MS) (H : Heap) (locs : List Loc) (ls : Array Slot), mw_net r0 → tw_M D vwCl mX q s.heap u z H locs → lv_has ls 7 [(0, .ref (u r0)), (1, .int x1), (2, .int x2), (3, .int x3)] → q_X12_walk K k 8 x1 x2 x3 x4 x5 x6 r0 t0 z = some z1 → W p l e ({ frames := 0, cells := 0, slots := 0, locals := 0 } : Room) s m args below meth c H locs 0 0 QQ (F0 m 170 ls [.int t0])) ∧ (∀ (x1 : Int32) (x2 : Int32) (x3 : Int32) (x4 : Int32) (x5 : Int32) (x6 : Int32) (r0 : Nat) (t0 : Int32) (z : ow_MS) (H : Heap) (locs : List Loc) (ls : Array Slot), mw_net r0 → tw_M D vwCl mX q s.heap u z H locs → lv_has ls 7 [(0, .ref (u r0)), (1, .int x1), (2, .int x2), (3, .int x3), (4, .int x4)] → q_X12_walk K k 9 x1 x2 x3 x4 x5 x6 r0 t0 z = some z1 → W p l e ({ frames := 0, cells := 0, slots := 0, locals := 0 } : Room) s m args below meth c H locs 0 0 QQ (F0 m 188 ls [.int t0])) ∧ (∀ (x1 : Int32) (x2 : Int32) (x3 : Int32) (x4 : Int32) (x5 : Int32) (x6 : Int32) (r0 : Nat) (t0 : Int32) (z : ow_MS) (H : Heap) (locs : List Loc) (ls : Array Slot), mw_net r0 → tw_M D vwCl mX q s.heap u z H locs → lv_has ls 7 [(0, .ref (u r0)), (1, .int x1), (2, .int x2), (3, .int x3), (4, .int x4), (5, .int x5), (6, .int x6)] → q_X12_walk K k 10 x1 x2 x3 x4 x5 x6 r0 t0 z = some z1 → W p l e ({ frames := 0, cells := 0, slots := 0, locals := 0 } : Room) s m args below meth c H locs 0 0 QQ (F0 m 221 ls [.int t0])) ∧ (∀ (x1 : Int32) (x2 : Int32) (x3 : Int32) (x4 : Int32) (x5 : Int32) (x6 : Int32) (r0 : Nat) (t0 : Int32) (z : ow_MS) (H : Heap) (locs : List Loc) (ls : Array Slot), mw_net r0 → tw_M D vwCl mX q s.heap u z H locs → lv_has ls 7 [(0, .ref (u r0)), (1, .int x1)] → q_X12_walk K k 11 x1 x2 x3 x4 x5 x6 r0 t0 z = some z1 → W p l e ({ frames := 0, cells := 0, slots := 0, locals := 0 } : Room) s m args below meth c H locs 0 0 QQ (F0 m 235 ls [])) := by
    intro k
    induction k with
    | zero => exact ⟨fun _ _ _ _ _ _ _ _ _ _ _ _ _ _ _ hq => tw_no hq, fun _ _ _ _ _ _ _ _ _ _ _ _ _ _ _ hq => tw_no hq, fun _ _ _ _ _ _ _ _ _ _ _ _ _ _ _ hq => tw_no hq, fun _ _ _ _ _ _ _ _ _ _ _ _ _ _ _ hq => tw_no hq, fun _ _ _ _ _ _ _ _ _ _ _ _ _ _ _ hq => tw_no hq, fun _ _ _ _ _ _ _ _ _ _ _ _ _ _ _ hq => tw_no hq, fun _ _ _ _ _ _ _ _ _ _ _ _ _ _ _ hq => tw_no hq, fun _ _ _ _ _ _ _ _ _ _ _ _ _ _ _ hq => tw_no hq, fun _ _ _ _ _ _ _ _ _ _ _ _ _ _ _ hq => tw_no hq, fun _ _ _ _ _ _ _ _ _ _ _ _ _ _ _ hq => tw_no hq, fun _ _ _ _ _ _ _ _ _ _ _ _ _ _ _ hq => tw_no hq, fun _ _ _ _ _ _ _ _ _ _ _ _ _ _ _ hq => tw_no hq⟩
    | succ k ih =>
      obtain ⟨ih_0, ih_1, ih_2, ih_3, ih_4, ih_5, ih_6, ih_7, ih_8, ih_9, ih_10, ih_11⟩ := ih
      refine ⟨?_, ?_, ?_, ?_, ?_, ?_, ?_, ?_, ?_, ?_, ?_, ?_⟩
      · intro x1 x2 x3 x4 x5 x6 r0 t0 z H locs ls hr0 hM hl hq
        have hq : qm_X12_walk_0 K (q_X12_walk K k) x1 x2 x3 x4 x5 x6 r0 t0 z = some z1 := hq
        unfold qm_X12_walk_0 at hq
        refine lv_iconst (v := 0) hx hb dmX12_walk_0 (by decide) ?_
        refine lv_istore_n (lv' := [(1, .int 0), (0, .ref (u r0))]) hx hb dmX12_walk_1 rfl hl (by decide) rfl (fun ls hl => ?_)
        exact ih_1 0 0 0 0 0 0 r0 0 z H locs ls hr0 hM (lv_sub hl [1, 0] rfl) hq
      · intro x1 x2 x3 x4 x5 x6 r0 t0 z H locs ls hr0 hM hl hq
        have hq : qm_X12_walk_1 K (q_X12_walk K k) x1 x2 x3 x4 x5 x6 r0 t0 z = some z1 := hq
        unfold qm_X12_walk_1 at hq
        refine lv_iload_n hx hb dmX12_walk_2 rfl (lv_at hl 1 rfl) ?_
        refine lv_iconst (v := 2) hx hb dmX12_walk_3 (by decide) ?_
        refine lv_aload_n hx hb dmX12_walk_4 rfl (lv_at hl 0 rfl) ?_
        refine mg12_48 hx hb hT hown hK hM hr0 hq dmX12_walk_5 (fun v1 hq => ?_)
        refine lv_imul hx hb dmX12_walk_8 ?_
        refine lv_icmp_ge (tgt := 25) hx hb dmX12_walk_9 (by decide) (fun hc => ?_) (fun hc => ?_)
        · have hq := tw_it hq hc
          refine lv_aload_n hx hb dmX12_walk_25 rfl (lv_at hl 0 rfl) ?_
          refine lv_iconst (v := 0) hx hb dmX12_walk_26 (by decide) ?_
          refine mp12_72 hx hb hT hown hK hM hU hr0 hq dmX12_walk_27 (fun z2 H locs hM hq => ?_)
          refine lv_iconst (v := 0) hx hb dmX12_walk_30 (by decide) ?_
          refine lv_istore_n (lv' := [(1, .int 0), (0, .ref (u r0))]) hx hb dmX12_walk_31 rfl hl (by decide) rfl (fun ls hl => ?_)
          exact ih_2 0 0 0 0 0 0 r0 0 z2 H locs ls hr0 hM (lv_sub hl [1, 0] rfl) hq
        · have hq := tw_if hq hc
          refine lv_aload_n hx hb dmX12_walk_12 rfl (lv_at hl 0 rfl) ?_
          refine mg12_42 hx hb hT hown hK hM hr0 dmX12_walk_13 ?_
          refine lv_iload_n hx hb dmX12_walk_16 rfl (lv_at hl 1 rfl) ?_
          refine lv_iconst (v := (-1)) hx hb dmX12_walk_17 (by decide) ?_
          refine tw_iast mX_ok hU hx hb hK hM (mrn_14 hr0) hq dmX12_walk_18 (fun z3 H locs hM hq => ?_)
          refine lv_iinc (v := (x1 + 1)) (lv' := [(1, .int (x1 + 1)), (0, .ref (u r0))]) hx hb dmX12_walk_19 hl (k := 1) rfl rfl (by decide) rfl (fun ls hl => ?_)
          refine lv_goto (tgt := 2) hx hb dmX12_walk_22 (by decide) ?_
          exact ih_1 (x1 + 1) 0 0 0 0 0 r0 0 z3 H locs ls hr0 hM (lv_sub hl [1, 0] rfl) hq
      · intro x1 x2 x3 x4 x5 x6 r0 t0 z H locs ls hr0 hM hl hq
        have hq : qm_X12_walk_2 K (q_X12_walk K k) x1 x2 x3 x4 x5 x6 r0 t0 z = some z1 := hq
        unfold qm_X12_walk_2 at hq
        refine lv_iload_n hx hb dmX12_walk_32 rfl (lv_at hl 1 rfl) ?_
        refine lv_iconst (v := 2) hx hb dmX12_walk_33 (by decide) ?_
        refine lv_aload_n hx hb dmX12_walk_34 rfl (lv_at hl 0 rfl) ?_
        refine mg12_48 hx hb hT hown hK hM hr0 hq dmX12_walk_35 (fun v4 hq => ?_)
        refine lv_imul hx hb dmX12_walk_38 ?_
        refine lv_icmp_ge (tgt := 241) hx hb dmX12_walk_39 (by decide) (fun hc => ?_) (fun hc => ?_)
        · have hq := tw_it hq hc
          exact mw_vret hx hb hr hlocks hM hq hQQ dmX12_walk_241
        · have hq := tw_if hq hc
          refine lv_aload_n hx hb dmX12_walk_42 rfl (lv_at hl 0 rfl) ?_
          refine mg12_42 hx hb hT hown hK hM hr0 dmX12_walk_43 ?_
          refine lv_iload_n hx hb dmX12_walk_46 rfl (lv_at hl 1 rfl) ?_
          refine tw_iald mX_ok hx hb hK hM (mrn_14 hr0) hq dmX12_walk_47 (fun v5 hq => ?_)
          refine lv_iconst (v := (-1)) hx hb dmX12_walk_48 (by decide) ?_
          refine lv_icmp_ne (tgt := 235) hx hb dmX12_walk_49 (by decide) (fun hc => ?_) (fun hc => ?_)
          · have hq := tw_if hq hc
            exact ih_11 x1 0 0 0 0 0 r0 0 z H locs ls hr0 hM (lv_sub hl [0, 1] rfl) hq
          · have hq := tw_it hq hc
            refine lv_aload_n hx hb dmX12_walk_52 rfl (lv_at hl 0 rfl) ?_
            refine mg12_45 hx hb hT hown hK hM hr0 dmX12_walk_53 ?_
            refine lv_aload_n hx hb dmX12_walk_56 rfl (lv_at hl 0 rfl) ?_
            refine mg12_72 hx hb hT hown hK hM hr0 hq dmX12_walk_57 (fun v6 hq => ?_)
            refine lv_iconst (v := 0) hx hb dmX12_walk_60 (by decide) ?_
            refine tw_iast mX_ok hU hx hb hK hM (mrn_15 hr0) hq dmX12_walk_61 (fun z7 H locs hM hq => ?_)
            refine lv_iload_n hx hb dmX12_walk_62 rfl (lv_at hl 1 rfl) ?_
            refine lv_istore_n (lv' := [(2, .int x1), (0, .ref (u r0)), (1, .int x1)]) hx hb dmX12_walk_63 rfl hl (by decide) rfl (fun ls hl => ?_)
            exact ih_3 x1 x1 0 0 0 0 r0 0 z7 H locs ls hr0 hM (lv_sub hl [1, 2, 0] rfl) hq
      · intro x1 x2 x3 x4 x5 x6 r0 t0 z H locs ls hr0 hM hl hq
        have hq : qm_X12_walk_3 K (q_X12_walk K k) x1 x2 x3 x4 x5 x6 r0 t0 z = some z1 := hq
        unfold qm_X12_walk_3 at hq
        refine lv_aload_n hx hb dmX12_walk_64 rfl (lv_at hl 0 rfl) ?_
        refine mg12_42 hx hb hT hown hK hM hr0 dmX12_walk_65 ?_
        refine lv_iload_n hx hb dmX12_walk_68 rfl (lv_at hl 2 rfl) ?_
        refine tw_iald mX_ok hx hb hK hM (mrn_14 hr0) hq dmX12_walk_69 (fun v8 hq => ?_)
        refine lv_iconst (v := (-1)) hx hb dmX12_walk_70 (by decide) ?_
        refine lv_icmp_ne (tgt := 225) hx hb dmX12_walk_71 (by decide) (fun hc => ?_) (fun hc => ?_)
        · have hq := tw_if hq hc
          refine lv_aload_n hx hb dmX12_walk_225 rfl (lv_at hl 0 rfl) ?_
          refine lv_dup hx hb dmX12_walk_226 rfl ?_
          refine mg12_72 hx hb hT hown hK hM hr0 hq dmX12_walk_227 (fun v9 hq => ?_)
          refine lv_iconst (v := 1) hx hb dmX12_walk_230 (by decide) ?_
          refine lv_iadd hx hb dmX12_walk_231 ?_
          refine mp12_72 hx hb hT hown hK hM hU hr0 hq dmX12_walk_232 (fun z10 H locs hM hq => ?_)
          exact ih_11 x1 0 0 0 0 0 r0 0 z10 H locs ls hr0 hM (lv_sub hl [0, 1] rfl) hq
        · have hq := tw_it hq hc
          refine lv_aload_n hx hb dmX12_walk_74 rfl (lv_at hl 0 rfl) ?_
          refine mg12_42 hx hb hT hown hK hM hr0 dmX12_walk_75 ?_
          refine lv_iload_n hx hb dmX12_walk_78 rfl (lv_at hl 2 rfl) ?_
          refine lv_aload_n hx hb dmX12_walk_79 rfl (lv_at hl 0 rfl) ?_
          refine mg12_72 hx hb hT hown hK hM hr0 hq dmX12_walk_80 (fun v11 hq => ?_)
          refine tw_iast mX_ok hU hx hb hK hM (mrn_14 hr0) hq dmX12_walk_83 (fun z12 H locs hM hq => ?_)
          refine lv_aload_n hx hb dmX12_walk_84 rfl (lv_at hl 0 rfl) ?_
          refine mg12_45 hx hb hT hown hK hM hr0 dmX12_walk_85 ?_
          refine lv_aload_n hx hb dmX12_walk_88 rfl (lv_at hl 0 rfl) ?_
          refine mg12_72 hx hb hT hown hK hM hr0 hq dmX12_walk_89 (fun v13 hq => ?_)
          refine lv_dup2_11 hx hb dmX12_walk_92 rfl rfl ?_
          refine tw_iald mX_ok hx hb hK hM (mrn_15 hr0) hq dmX12_walk_93 (fun v14 hq => ?_)
          refine lv_iconst (v := 1) hx hb dmX12_walk_94 (by decide) ?_
          refine lv_iadd hx hb dmX12_walk_95 ?_
          refine tw_iast mX_ok hU hx hb hK hM (mrn_15 hr0) hq dmX12_walk_96 (fun z15 H locs hM hq => ?_)
          refine lv_iload_n hx hb dmX12_walk_97 rfl (lv_at hl 2 rfl) ?_
          refine lv_iconst (v := 1) hx hb dmX12_walk_98 (by decide) ?_
          refine lv_iand hx hb dmX12_walk_99 ?_
          refine lv_if_ne (tgt := 114) hx hb dmX12_walk_100 (by decide) (fun hc => ?_) (fun hc => ?_)
          · have hq := tw_if hq hc
            refine lv_iload_n hx hb dmX12_walk_114 rfl (lv_at hl 2 rfl) ?_
            refine lv_iconst (v := 1) hx hb dmX12_walk_115 (by decide) ?_
            refine lv_ishr hx hb dmX12_walk_116 ?_
            exact ih_4 x1 x2 0 0 0 0 r0 ((x2 : Int32) >>> ((1 : Int32) &&& 31)) z15 H locs ls hr0 hM (lv_sub hl [0, 1, 2] rfl) hq
          · have hq := tw_it hq hc
            refine lv_aload_n hx hb dmX12_walk_103 rfl (lv_at hl 0 rfl) ?_
            refine mg12_30 hx hb hT hown hK hM hr0 dmX12_walk_104 ?_
            refine lv_iload_n hx hb dmX12_walk_107 rfl (lv_at hl 2 rfl) ?_
            refine lv_iconst (v := 1) hx hb dmX12_walk_108 (by decide) ?_
            refine lv_ishr hx hb dmX12_walk_109 ?_
            refine tw_iald mX_ok hx hb hK hM (mrn_9 hr0) hq dmX12_walk_110 (fun v16 hq => ?_)
            refine lv_goto (tgt := 117) hx hb dmX12_walk_111 (by decide) ?_
            exact ih_4 x1 x2 0 0 0 0 r0 v16 z15 H locs ls hr0 hM (lv_sub hl [0, 1, 2] rfl) hq
      · intro x1 x2 x3 x4 x5 x6 r0 t0 z H locs ls hr0 hM hl hq
        have hq : qm_X12_walk_4 K (q_X12_walk K k) x1 x2 x3 x4 x5 x6 r0 t0 z = some z1 := hq
        unfold qm_X12_walk_4 at hq
        refine lv_istore_n (lv' := [(3, .int t0), (0, .ref (u r0)), (1, .int x1), (2, .int x2)]) hx hb dmX12_walk_117 rfl hl (by decide) rfl (fun ls hl => ?_)
        refine lv_aload_n hx hb dmX12_walk_118 rfl (lv_at hl 1 rfl) ?_
        refine mg12_18 hx hb hT hown hK hM hr0 dmX12_walk_119 ?_
        refine lv_iload_n hx hb dmX12_walk_122 rfl (lv_at hl 0 rfl) ?_
        refine tw_iald mX_ok hx hb hK hM (mrn_5 hr0) hq dmX12_walk_123 (fun v17 hq => ?_)
        refine lv_if_ne (tgt := 141) hx hb dmX12_walk_124 (by decide) (fun hc => ?_) (fun hc => ?_)
        · have hq := tw_if hq hc
          exact ih_5 x1 x2 t0 0 0 0 r0 0 z H locs ls hr0 hM (lv_sub hl [1, 2, 3, 0] rfl) hq
        · have hq := tw_it hq hc
          refine lv_aload_n hx hb dmX12_walk_127 rfl (lv_at hl 1 rfl) ?_
          refine mg12_21 hx hb hT hown hK hM hr0 dmX12_walk_128 ?_
          refine lv_aload_n hx hb dmX12_walk_131 rfl (lv_at hl 1 rfl) ?_
          refine mg12_15 hx hb hT hown hK hM hr0 dmX12_walk_132 ?_
          refine lv_iload_n hx hb dmX12_walk_135 rfl (lv_at hl 0 rfl) ?_
          refine tw_iald mX_ok hx hb hK hM (mrn_4 hr0) hq dmX12_walk_136 (fun v18 hq => ?_)
          refine tw_iald mX_ok hx hb hK hM (mrn_6 hr0) hq dmX12_walk_137 (fun v19 hq => ?_)
          refine lv_if_gt (tgt := 165) hx hb dmX12_walk_138 (by decide) (fun hc => ?_) (fun hc => ?_)
          · have hq := tw_it hq hc
            exact ih_6 x1 x2 t0 0 0 0 r0 0 z H locs ls hr0 hM (lv_sub hl [1, 2, 3, 0] rfl) hq
          · have hq := tw_if hq hc
            exact ih_5 x1 x2 t0 0 0 0 r0 0 z H locs ls hr0 hM (lv_sub hl [1, 2, 3, 0] rfl) hq
      · intro x1 x2 x3 x4 x5 x6 r0 t0 z H locs ls hr0 hM hl hq
        have hq : qm_X12_walk_5 K (q_X12_walk K k) x1 x2 x3 x4 x5 x6 r0 t0 z = some z1 := hq
        unfold qm_X12_walk_5 at hq
        refine lv_aload_n hx hb dmX12_walk_141 rfl (lv_at hl 0 rfl) ?_
        refine mg12_18 hx hb hT hown hK hM hr0 dmX12_walk_142 ?_
        refine lv_iload_n hx hb dmX12_walk_145 rfl (lv_at hl 3 rfl) ?_
        refine tw_iald mX_ok hx hb hK hM (mrn_5 hr0) hq dmX12_walk_146 (fun v20 hq => ?_)
        refine lv_iconst (v := 1) hx hb dmX12_walk_147 (by decide) ?_
        refine lv_icmp_ne (tgt := 169) hx hb dmX12_walk_148 (by decide) (fun hc => ?_) (fun hc => ?_)
        · have hq := tw_if hq hc
          exact ih_7 x1 x2 x3 0 0 0 r0 0 z H locs ls hr0 hM (lv_sub hl [0, 1, 2, 3] rfl) hq
        · have hq := tw_it hq hc
          refine lv_aload_n hx hb dmX12_walk_151 rfl (lv_at hl 0 rfl) ?_
          refine mg12_21 hx hb hT hown hK hM hr0 dmX12_walk_152 ?_
          refine lv_aload_n hx hb dmX12_walk_155 rfl (lv_at hl 0 rfl) ?_
          refine mg12_15 hx hb hT hown hK hM hr0 dmX12_walk_156 ?_
          refine lv_iload_n hx hb dmX12_walk_159 rfl (lv_at hl 3 rfl) ?_
          refine tw_iald mX_ok hx hb hK hM (mrn_4 hr0) hq dmX12_walk_160 (fun v21 hq => ?_)
          refine tw_iald mX_ok hx hb hK hM (mrn_6 hr0) hq dmX12_walk_161 (fun v22 hq => ?_)
          refine lv_if_ge (tgt := 169) hx hb dmX12_walk_162 (by decide) (fun hc => ?_) (fun hc => ?_)
          · have hq := tw_it hq hc
            exact ih_7 x1 x2 x3 0 0 0 r0 0 z H locs ls hr0 hM (lv_sub hl [0, 1, 2, 3] rfl) hq
          · have hq := tw_if hq hc
            exact ih_6 x1 x2 x3 0 0 0 r0 0 z H locs ls hr0 hM (lv_sub hl [0, 1, 2, 3] rfl) hq
      · intro x1 x2 x3 x4 x5 x6 r0 t0 z H locs ls hr0 hM hl hq
        have hq : qm_X12_walk_6 K (q_X12_walk K k) x1 x2 x3 x4 x5 x6 r0 t0 z = some z1 := hq
        unfold qm_X12_walk_6 at hq
        refine lv_iconst (v := 1) hx hb dmX12_walk_165 (by decide) ?_
        refine lv_goto (tgt := 170) hx hb dmX12_walk_166 (by decide) ?_
        exact ih_8 x1 x2 x3 0 0 0 r0 1 z H locs ls hr0 hM (lv_sub hl [0, 1, 2, 3] rfl) hq
      · intro x1 x2 x3 x4 x5 x6 r0 t0 z H locs ls hr0 hM hl hq
        have hq : qm_X12_walk_7 K (q_X12_walk K k) x1 x2 x3 x4 x5 x6 r0 t0 z = some z1 := hq
        unfold qm_X12_walk_7 at hq
        refine lv_iconst (v := 0) hx hb dmX12_walk_169 (by decide) ?_
        exact ih_8 x1 x2 x3 0 0 0 r0 0 z H locs ls hr0 hM (lv_sub hl [0, 1, 2, 3] rfl) hq
      · intro x1 x2 x3 x4 x5 x6 r0 t0 z H locs ls hr0 hM hl hq
        have hq : qm_X12_walk_8 K (q_X12_walk K k) x1 x2 x3 x4 x5 x6 r0 t0 z = some z1 := hq
        unfold qm_X12_walk_8 at hq
        refine lv_istore (lv' := [(4, .int t0), (0, .ref (u r0)), (1, .int x1), (2, .int x2), (3, .int x3)]) hx hb dmX12_walk_170 hl (by decide) rfl (fun ls hl => ?_)
        refine lv_iload hx hb dmX12_walk_172 (lv_at hl 0 rfl) ?_
        refine lv_if_eq (tgt := 183) hx hb dmX12_walk_174 (by decide) (fun hc => ?_) (fun hc => ?_)
        · have hq := tw_it hq hc
          refine lv_iconst (v := 1) hx hb dmX12_walk_183 (by decide) ?_
          refine lv_iload_n hx hb dmX12_walk_184 rfl (lv_at hl 3 rfl) ?_
          refine lv_iconst (v := 1) hx hb dmX12_walk_185 (by decide) ?_
          refine lv_iand hx hb dmX12_walk_186 ?_
          refine lv_isub hx hb dmX12_walk_187 ?_
          exact ih_9 x1 x2 x3 t0 0 0 r0 (1 - (x2 &&& 1)) z H locs ls hr0 hM (lv_sub hl [1, 2, 3, 4, 0] rfl) hq
        · have hq := tw_if hq hc
          refine lv_iload_n hx hb dmX12_walk_177 rfl (lv_at hl 3 rfl) ?_
          refine lv_iconst (v := 1) hx hb dmX12_walk_178 (by decide) ?_
          refine lv_iand hx hb dmX12_walk_179 ?_
          refine lv_goto (tgt := 188) hx hb dmX12_walk_180 (by decide) ?_
          exact ih_9 x1 x2 x3 t0 0 0 r0 (x2 &&& 1) z H locs ls hr0 hM (lv_sub hl [1, 2, 3, 4, 0] rfl) hq
      · intro x1 x2 x3 x4 x5 x6 r0 t0 z H locs ls hr0 hM hl hq
        have hq : qm_X12_walk_9 K (q_X12_walk K k) x1 x2 x3 x4 x5 x6 r0 t0 z = some z1 := hq
        unfold qm_X12_walk_9 at hq
        refine lv_istore (lv' := [(5, .int t0), (0, .ref (u r0)), (1, .int x1), (2, .int x2), (3, .int x3), (4, .int x4)]) hx hb dmX12_walk_188 hl (by decide) rfl (fun ls hl => ?_)
        refine lv_aload_n hx hb dmX12_walk_190 rfl (lv_at hl 1 rfl) ?_
        refine mg12_24 hx hb hT hown hK hM hr0 dmX12_walk_191 ?_
        refine lv_iload_n hx hb dmX12_walk_194 rfl (lv_at hl 4 rfl) ?_
        refine tw_iald mX_ok hx hb hK hM (mrn_7 hr0) hq dmX12_walk_195 (fun v23 hq => ?_)
        refine lv_istore (lv' := [(6, .int v23), (5, .int t0), (0, .ref (u r0)), (1, .int x1), (2, .int x2), (3, .int x3), (4, .int x4)]) hx hb dmX12_walk_196 hl (by decide) rfl (fun ls hl => ?_)
        refine lv_iload hx hb dmX12_walk_198 (lv_at hl 1 rfl) ?_
        refine lv_if_ne (tgt := 210) hx hb dmX12_walk_200 (by decide) (fun hc => ?_) (fun hc => ?_)
        · have hq := tw_if hq hc
          refine lv_iconst (v := 2) hx hb dmX12_walk_210 (by decide) ?_
          refine lv_aload_n hx hb dmX12_walk_211 rfl (lv_at hl 2 rfl) ?_
          refine mg12_33 hx hb hT hown hK hM hr0 dmX12_walk_212 ?_
          refine lv_iload hx hb dmX12_walk_215 (lv_at hl 0 rfl) ?_
          refine tw_iald mX_ok hx hb hK hM (mrn_10 hr0) hq dmX12_walk_217 (fun v24 hq => ?_)
          refine lv_imul hx hb dmX12_walk_218 ?_
          refine lv_iconst (v := 1) hx hb dmX12_walk_219 (by decide) ?_
          refine lv_iadd hx hb dmX12_walk_220 ?_
          exact ih_10 x1 x2 x3 x4 t0 v23 r0 ((2 * v24) + 1) z H locs ls hr0 hM (lv_sub hl [2, 3, 4, 5, 6, 1, 0] rfl) hq
        · have hq := tw_it hq hc
          refine lv_iconst (v := 2) hx hb dmX12_walk_203 (by decide) ?_
          refine lv_iload hx hb dmX12_walk_204 (lv_at hl 0 rfl) ?_
          refine lv_imul hx hb dmX12_walk_206 ?_
          refine lv_goto (tgt := 221) hx hb dmX12_walk_207 (by decide) ?_
          exact ih_10 x1 x2 x3 x4 t0 v23 r0 (2 * v23) z H locs ls hr0 hM (lv_sub hl [2, 3, 4, 5, 6, 1, 0] rfl) hq
      · intro x1 x2 x3 x4 x5 x6 r0 t0 z H locs ls hr0 hM hl hq
        have hq : qm_X12_walk_10 K (q_X12_walk K k) x1 x2 x3 x4 x5 x6 r0 t0 z = some z1 := hq
        unfold qm_X12_walk_10 at hq
        refine lv_istore_n (lv' := [(2, .int t0), (0, .ref (u r0)), (1, .int x1), (3, .int x3), (4, .int x4), (5, .int x5), (6, .int x6)]) hx hb dmX12_walk_221 rfl hl (by decide) rfl (fun ls hl => ?_)
        refine lv_goto (tgt := 64) hx hb dmX12_walk_222 (by decide) ?_
        exact ih_3 x1 t0 0 0 0 0 r0 0 z H locs ls hr0 hM (lv_sub hl [1, 2, 0] rfl) hq
      · intro x1 x2 x3 x4 x5 x6 r0 t0 z H locs ls hr0 hM hl hq
        have hq : qm_X12_walk_11 K (q_X12_walk K k) x1 x2 x3 x4 x5 x6 r0 t0 z = some z1 := hq
        unfold qm_X12_walk_11 at hq
        refine lv_iinc (v := (x1 + 1)) (lv' := [(1, .int (x1 + 1)), (0, .ref (u r0))]) hx hb dmX12_walk_235 hl (k := 1) rfl rfl (by decide) rfl (fun ls hl => ?_)
        refine lv_goto (tgt := 32) hx hb dmX12_walk_238 (by decide) ?_
        exact ih_2 (x1 + 1) 0 0 0 0 0 r0 0 z H locs ls hr0 hM (lv_sub hl [1, 0] rfl) hq
  exact (key K).1 0 0 0 0 0 0 r0 0 z s.heap [] ls hr0 hM (lv_sub hl [0] rfl) hq
theorem dmX12_isPlane_0 : decode cX12_isPlane 0 = .ok (.aload_n 0, 1) := dw_at cX12_isPlane_k0 (p := 0) rfl (by decide +kernel)
theorem dmX12_isPlane_1 : decode cX12_isPlane 1 = .ok (.invokevirtual 75, 3) := dw_at cX12_isPlane_k0 (p := 1) rfl (by decide +kernel)
theorem dmX12_isPlane_4 : decode cX12_isPlane 4 = .ok (.aload_n 0, 1) := dw_at cX12_isPlane_k0 (p := 4) rfl (by decide +kernel)
theorem dmX12_isPlane_5 : decode cX12_isPlane 5 = .ok (.invokevirtual 78, 3) := dw_at cX12_isPlane_k0 (p := 5) rfl (by decide +kernel)
theorem dmX12_isPlane_8 : decode cX12_isPlane 8 = .ok (.aload_n 0, 1) := dw_at cX12_isPlane_k0 (p := 8) rfl (by decide +kernel)
theorem dmX12_isPlane_9 : decode cX12_isPlane 9 = .ok (.getfield 48, 3) := dw_at cX12_isPlane_k0 (p := 9) rfl (by decide +kernel)
theorem dmX12_isPlane_12 : decode cX12_isPlane 12 = .ok (.iconst 2, 1) := dw_at cX12_isPlane_k0 (p := 12) rfl (by decide +kernel)
theorem dmX12_isPlane_13 : decode cX12_isPlane 13 = .ok (.idiv, 1) := dw_at cX12_isPlane_k0 (p := 13) rfl (by decide +kernel)
theorem dmX12_isPlane_14 : decode cX12_isPlane 14 = .ok (.istore_n 1, 1) := dw_at cX12_isPlane_k0 (p := 14) rfl (by decide +kernel)
theorem dmX12_isPlane_15 : decode cX12_isPlane 15 = .ok (.iconst 0, 1) := dw_at cX12_isPlane_k0 (p := 15) rfl (by decide +kernel)
theorem dmX12_isPlane_16 : decode cX12_isPlane 16 = .ok (.istore_n 2, 1) := dw_at cX12_isPlane_k0 (p := 16) rfl (by decide +kernel)
theorem dmX12_isPlane_17 : decode cX12_isPlane 17 = .ok (.iload_n 2, 1) := dw_at cX12_isPlane_k0 (p := 17) rfl (by decide +kernel)
theorem dmX12_isPlane_18 : decode cX12_isPlane 18 = .ok (.aload_n 0, 1) := dw_at cX12_isPlane_k0 (p := 18) rfl (by decide +kernel)
theorem dmX12_isPlane_19 : decode cX12_isPlane 19 = .ok (.getfield 69, 3) := dw_at cX12_isPlane_k0 (p := 19) rfl (by decide +kernel)
theorem dmX12_isPlane_22 : decode cX12_isPlane 22 = .ok (.if_icmp .ge 69, 3) := dw_at cX12_isPlane_k0 (p := 22) rfl (by decide +kernel)
theorem dmX12_isPlane_25 : decode cX12_isPlane 25 = .ok (.iconst 0, 1) := dw_at cX12_isPlane_k1 (p := 0) rfl (by decide +kernel)
theorem dmX12_isPlane_26 : decode cX12_isPlane 26 = .ok (.istore_n 3, 1) := dw_at cX12_isPlane_k1 (p := 1) rfl (by decide +kernel)
theorem dmX12_isPlane_27 : decode cX12_isPlane 27 = .ok (.iconst 0, 1) := dw_at cX12_isPlane_k1 (p := 2) rfl (by decide +kernel)
theorem dmX12_isPlane_28 : decode cX12_isPlane 28 = .ok (.istore 4, 2) := dw_at cX12_isPlane_k1 (p := 3) rfl (by decide +kernel)
theorem dmX12_isPlane_30 : decode cX12_isPlane 30 = .ok (.iload 4, 2) := dw_at cX12_isPlane_k1 (p := 5) rfl (by decide +kernel)
theorem dmX12_isPlane_32 : decode cX12_isPlane 32 = .ok (.aload_n 0, 1) := dw_at cX12_isPlane_k1 (p := 7) rfl (by decide +kernel)
theorem dmX12_isPlane_33 : decode cX12_isPlane 33 = .ok (.getfield 52, 3) := dw_at cX12_isPlane_k1 (p := 8) rfl (by decide +kernel)
theorem dmX12_isPlane_36 : decode cX12_isPlane 36 = .ok (.if_icmp .ge 37, 3) := dw_at cX12_isPlane_k1 (p := 11) rfl (by decide +kernel)
theorem dmX12_isPlane_39 : decode cX12_isPlane 39 = .ok (.iload_n 3, 1) := dw_at cX12_isPlane_k1 (p := 14) rfl (by decide +kernel)
theorem dmX12_isPlane_40 : decode cX12_isPlane 40 = .ok (.aload_n 0, 1) := dw_at cX12_isPlane_k1 (p := 15) rfl (by decide +kernel)
theorem dmX12_isPlane_41 : decode cX12_isPlane 41 = .ok (.getfield 39, 3) := dw_at cX12_isPlane_k1 (p := 16) rfl (by decide +kernel)
theorem dmX12_isPlane_44 : decode cX12_isPlane 44 = .ok (.iload 4, 2) := dw_at cX12_isPlane_k1 (p := 19) rfl (by decide +kernel)
theorem dmX12_isPlane_46 : decode cX12_isPlane 46 = .ok (.iaload, 1) := dw_at cX12_isPlane_k1 (p := 21) rfl (by decide +kernel)
theorem dmX12_isPlane_47 : decode cX12_isPlane 47 = .ok (.iload_n 2, 1) := dw_at cX12_isPlane_k1 (p := 22) rfl (by decide +kernel)
theorem dmX12_isPlane_48 : decode cX12_isPlane 48 = .ok (.if_icmp .ne 16, 3) := dw_at cX12_isPlane_k1 (p := 23) rfl (by decide +kernel)
theorem dmX12_isPlane_51 : decode cX12_isPlane 51 = .ok (.aload_n 0, 1) := dw_at cX12_isPlane_k2 (p := 0) rfl (by decide +kernel)
theorem dmX12_isPlane_52 : decode cX12_isPlane 52 = .ok (.iload 4, 2) := dw_at cX12_isPlane_k2 (p := 1) rfl (by decide +kernel)
theorem dmX12_isPlane_54 : decode cX12_isPlane 54 = .ok (.invokevirtual 81, 3) := dw_at cX12_isPlane_k2 (p := 3) rfl (by decide +kernel)
theorem dmX12_isPlane_57 : decode cX12_isPlane 57 = .ok (.ifCond .ne 7, 3) := dw_at cX12_isPlane_k2 (p := 6) rfl (by decide +kernel)
theorem dmX12_isPlane_60 : decode cX12_isPlane 60 = .ok (.iconst 1, 1) := dw_at cX12_isPlane_k2 (p := 9) rfl (by decide +kernel)
theorem dmX12_isPlane_61 : decode cX12_isPlane 61 = .ok (.goto 4, 3) := dw_at cX12_isPlane_k2 (p := 10) rfl (by decide +kernel)
theorem dmX12_isPlane_64 : decode cX12_isPlane 64 = .ok (.iconst 0, 1) := dw_at cX12_isPlane_k2 (p := 13) rfl (by decide +kernel)
theorem dmX12_isPlane_65 : decode cX12_isPlane 65 = .ok (.ior, 1) := dw_at cX12_isPlane_k2 (p := 14) rfl (by decide +kernel)
theorem dmX12_isPlane_66 : decode cX12_isPlane 66 = .ok (.istore_n 3, 1) := dw_at cX12_isPlane_k2 (p := 15) rfl (by decide +kernel)
theorem dmX12_isPlane_67 : decode cX12_isPlane 67 = .ok (.iinc 4 1, 3) := dw_at cX12_isPlane_k2 (p := 16) rfl (by decide +kernel)
theorem dmX12_isPlane_70 : decode cX12_isPlane 70 = .ok (.goto (-40), 3) := dw_at cX12_isPlane_k2 (p := 19) rfl (by decide +kernel)
theorem dmX12_isPlane_73 : decode cX12_isPlane 73 = .ok (.iload_n 1, 1) := dw_at cX12_isPlane_k2 (p := 22) rfl (by decide +kernel)
theorem dmX12_isPlane_74 : decode cX12_isPlane 74 = .ok (.iload_n 3, 1) := dw_at cX12_isPlane_k2 (p := 23) rfl (by decide +kernel)
theorem dmX12_isPlane_75 : decode cX12_isPlane 75 = .ok (.ifCond .eq 7, 3) := dw_at cX12_isPlane_k3 (p := 0) rfl (by decide +kernel)
theorem dmX12_isPlane_78 : decode cX12_isPlane 78 = .ok (.iconst 2, 1) := dw_at cX12_isPlane_k3 (p := 3) rfl (by decide +kernel)
theorem dmX12_isPlane_79 : decode cX12_isPlane 79 = .ok (.goto 4, 3) := dw_at cX12_isPlane_k3 (p := 4) rfl (by decide +kernel)
theorem dmX12_isPlane_82 : decode cX12_isPlane 82 = .ok (.iconst 0, 1) := dw_at cX12_isPlane_k3 (p := 7) rfl (by decide +kernel)
theorem dmX12_isPlane_83 : decode cX12_isPlane 83 = .ok (.iadd, 1) := dw_at cX12_isPlane_k3 (p := 8) rfl (by decide +kernel)
theorem dmX12_isPlane_84 : decode cX12_isPlane 84 = .ok (.istore_n 1, 1) := dw_at cX12_isPlane_k3 (p := 9) rfl (by decide +kernel)
theorem dmX12_isPlane_85 : decode cX12_isPlane 85 = .ok (.iinc 2 1, 3) := dw_at cX12_isPlane_k3 (p := 10) rfl (by decide +kernel)
theorem dmX12_isPlane_88 : decode cX12_isPlane 88 = .ok (.goto (-71), 3) := dw_at cX12_isPlane_k3 (p := 13) rfl (by decide +kernel)
theorem dmX12_isPlane_91 : decode cX12_isPlane 91 = .ok (.aload_n 0, 1) := dw_at cX12_isPlane_k3 (p := 16) rfl (by decide +kernel)
theorem dmX12_isPlane_92 : decode cX12_isPlane 92 = .ok (.getfield 72, 3) := dw_at cX12_isPlane_k3 (p := 17) rfl (by decide +kernel)
theorem dmX12_isPlane_95 : decode cX12_isPlane 95 = .ok (.iload_n 1, 1) := dw_at cX12_isPlane_k3 (p := 20) rfl (by decide +kernel)
theorem dmX12_isPlane_96 : decode cX12_isPlane 96 = .ok (.if_icmp .ne 7, 3) := dw_at cX12_isPlane_k3 (p := 21) rfl (by decide +kernel)
theorem dmX12_isPlane_99 : decode cX12_isPlane 99 = .ok (.iconst 1, 1) := dw_at cX12_isPlane_k3 (p := 24) rfl (by decide +kernel)
theorem dmX12_isPlane_100 : decode cX12_isPlane 100 = .ok (.goto 4, 3) := dw_at cX12_isPlane_k3 (p := 25) rfl (by decide +kernel)
theorem dmX12_isPlane_103 : decode cX12_isPlane 103 = .ok (.iconst 0, 1) := dw_at cX12_isPlane_k3 (p := 28) rfl (by decide +kernel)
theorem dmX12_isPlane_104 : decode cX12_isPlane 104 = .ok (.ireturn, 1) := dw_at cX12_isPlane_k3 (p := 29) rfl (by decide +kernel)
def qm_X12_isPlane_0 (K : Nat) (go : Nat → Int32 → Int32 → Int32 → Int32 → Nat → Int32 → Int32 → ow_MS → Option (Int32 × ow_MS)) (x1 : Int32) (x2 : Int32) (x3 : Int32) (x4 : Int32) (r0 : Nat) (t0 : Int32) (t1 : Int32) (z : ow_MS) : Option (Int32 × ow_MS) :=
 cs0 (qe_X12_split K r0 z) fun z1 => cs0 (qe_X12_walk K r0 z1) fun z2 => rdF z2 (r0 + 1) fun v3 => nzI 2 (go 1 (v3 / 2) 0 0 0 r0 0 0 z2)
def qm_X12_isPlane_1 (K : Nat) (go : Nat → Int32 → Int32 → Int32 → Int32 → Nat → Int32 → Int32 → ow_MS → Option (Int32 × ow_MS)) (x1 : Int32) (x2 : Int32) (x3 : Int32) (x4 : Int32) (r0 : Nat) (t0 : Int32) (t1 : Int32) (z : ow_MS) : Option (Int32 × ow_MS) :=
 rdF z (r0 + 13) fun v4 => (if v4 ≤ x2 then rdF z (r0 + 16) fun v5 => (if v5 = x1 then okZ 1 (some (1, z))
 else okZ 0 (some (0, z)))
 else go 2 x1 x2 0 0 r0 0 0 z)
def qm_X12_isPlane_2 (K : Nat) (go : Nat → Int32 → Int32 → Int32 → Int32 → Nat → Int32 → Int32 → ow_MS → Option (Int32 × ow_MS)) (x1 : Int32) (x2 : Int32) (x3 : Int32) (x4 : Int32) (r0 : Nat) (t0 : Int32) (t1 : Int32) (z : ow_MS) : Option (Int32 × ow_MS) :=
 rdF z (r0 + 2) fun v6 => (if v6 ≤ x4 then (if x3 = 0 then go 5 x1 x2 x3 x4 r0 0 x1 z
 else go 5 x1 x2 x3 x4 r0 2 x1 z)
 else rdI mX z (r0 + 12) x4 fun v7 => (if v7 = x2 then cs1 (qe_X12_isCircle K r0 x4 z) fun v9 z8 => (if v9 = 0 then go 4 x1 x2 x3 x4 r0 1 x3 z8
 else go 3 x1 x2 x3 x4 r0 x3 0 z8)
 else go 3 x1 x2 x3 x4 r0 x3 0 z))
def qm_X12_isPlane_3 (K : Nat) (go : Nat → Int32 → Int32 → Int32 → Int32 → Nat → Int32 → Int32 → ow_MS → Option (Int32 × ow_MS)) (x1 : Int32) (x2 : Int32) (x3 : Int32) (x4 : Int32) (r0 : Nat) (t0 : Int32) (t1 : Int32) (z : ow_MS) : Option (Int32 × ow_MS) :=
 go 4 x1 x2 x3 x4 r0 0 t0 z
def qm_X12_isPlane_4 (K : Nat) (go : Nat → Int32 → Int32 → Int32 → Int32 → Nat → Int32 → Int32 → ow_MS → Option (Int32 × ow_MS)) (x1 : Int32) (x2 : Int32) (x3 : Int32) (x4 : Int32) (r0 : Nat) (t0 : Int32) (t1 : Int32) (z : ow_MS) : Option (Int32 × ow_MS) :=
 go 2 x1 x2 (t1 ||| t0) (x4 + 1) r0 0 0 z
def qm_X12_isPlane_5 (K : Nat) (go : Nat → Int32 → Int32 → Int32 → Int32 → Nat → Int32 → Int32 → ow_MS → Option (Int32 × ow_MS)) (x1 : Int32) (x2 : Int32) (x3 : Int32) (x4 : Int32) (r0 : Nat) (t0 : Int32) (t1 : Int32) (z : ow_MS) : Option (Int32 × ow_MS) :=
 go 1 (t1 + t0) (x2 + 1) 0 0 r0 0 0 z
def qb_X12_isPlane (K : Nat) (go : Nat → Int32 → Int32 → Int32 → Int32 → Nat → Int32 → Int32 → ow_MS → Option (Int32 × ow_MS)) (L : Nat) (x1 : Int32) (x2 : Int32) (x3 : Int32) (x4 : Int32) (r0 : Nat) (t0 : Int32) (t1 : Int32) (z : ow_MS) : Option (Int32 × ow_MS) := match L with
  | 0 => qm_X12_isPlane_0 K go x1 x2 x3 x4 r0 t0 t1 z
  | 1 => qm_X12_isPlane_1 K go x1 x2 x3 x4 r0 t0 t1 z
  | 2 => qm_X12_isPlane_2 K go x1 x2 x3 x4 r0 t0 t1 z
  | 3 => qm_X12_isPlane_3 K go x1 x2 x3 x4 r0 t0 t1 z
  | 4 => qm_X12_isPlane_4 K go x1 x2 x3 x4 r0 t0 t1 z
  | 5 => qm_X12_isPlane_5 K go x1 x2 x3 x4 r0 t0 t1 z
  | _ => none
def q_X12_isPlane (K : Nat) : Nat → Nat → Int32 → Int32 → Int32 → Int32 → Nat → Int32 → Int32 → ow_MS → Option (Int32 × ow_MS)
  | 0 => fun _ _ _ _ _ _ _ _ _ => none
  | k + 1 => qb_X12_isPlane K (q_X12_isPlane K k)
def qe_X12_isPlane (K : Nat) (r0 : Nat) (z : ow_MS) : Option (Int32 × ow_MS) := q_X12_isPlane K K 0 0 0 0 0 r0 0 0 z
abbrev wm_X12_isPlane : List Cond := .code yX12_isPlane cX12_isPlane 5 (some .boolean) :: wM
theorem cd_X12_isPlane : yX12_isPlane.cls = RX12 ∧ yX12_isPlane.cls ≠ "java/lang/invoke/MethodHandle" ∧ yX12_isPlane.cls ≠ "java/lang/invoke/VarHandle" ∧ (parseMethodDescriptor yX12_isPlane.desc).map (fun d => d.parameters.length) = some 0 := by decide +kernel
set_option maxHeartbeats 4000000 in
set_option maxRecDepth 100000 in
theorem km_X12_isPlane (l : Launch) (D : va_G) (q : ow_Q5) (u : Nat → Nat) (hU : tw_inj mX u) (K : Nat) (r0 : Nat) (hr0 : mw_net r0) (z z1 : ow_MS) (r : Int32) (hq : qe_X12_isPlane K r0 z = some (r, z1)) : Met l yX12_isPlane wm_X12_isPlane ({ frames := 1, cells := 0, slots := 0, locals := 26 } : Room) (va_Pc [.ref (u r0)] (mw_pre D q u z)) (va_Qi (fun x (_ : Unit) => x = r) (fun _ t => va_P D vwCl (tw mX q u z1) t.heap) (tw_A mX u)) 0 0 (tw_A mX u) := by
  refine Met.ofW (cc := cX12_isPlane) (maxL := 5) (ret := (some .boolean)) (by decide) rfl ?_
  intro p e s m args below meth c s₁ B hml hv
  obtain ⟨rfl, hP, hK, hN⟩ := hv
  have hx := B.exec
  have hb := B.bytes
  have hr := B.returns
  have hts := atoms_spec (ws := wm_X12_isPlane) B.pre
  have hT : ∀ w ∈ wM, w.before ([.ref (u r0)] : List Value).toArray s = true := fun w h => hts w (List.mem_cons_of_mem _ h)
  have hown : s.vm.findClass RX12 = some m.cls := findClass_of_methodNamed B.named
  have hlocks := B.notSynchronized
  have hM : tw_M D vwCl mX q s.heap u z s.heap [] := ⟨hP, va_S.rf⟩
  have hl := lv_entry ([.ref (u r0)]) (n := 5) (Nat.le_of_ble_eq_true rfl)
  rw [lg_entry_eq]
  generalize (lg_sl ([.ref (u r0)]) ++ List.replicate (5 - (lg_sl ([.ref (u r0)])).length) Slot.unset).toArray = ls at hl ⊢
  have hl : lv_has ls 5 [(0, .ref (u r0))] := hl
  refine ow_named (fun QQ hQQ => ?_)
  generalize ([.ref (u r0)] : List Value).toArray = args at hts hT hQQ ⊢
  have key : ∀ k : Nat, (∀ (x1 : Int32) (x2 : Int32) (x3 : Int32) (x4 : Int32) (r0 : Nat) (t0 : Int32) (t1 : Int32) (z : ow_MS) (H : Heap) (locs : List Loc) (ls : Array Slot), mw_net r0 → tw_M D vwCl mX q s.heap u z H locs → lv_has ls 5 [(0, .ref (u r0))] → q_X12_isPlane K k 0 x1 x2 x3 x4 r0 t0 t1 z = some (r, z1) → W p l e ({ frames := 1, cells := 0, slots := 0, locals := 26 } : Room) s m args below meth c H locs 0 0 QQ (F0 m 0 ls [])) ∧ (∀ (x1 : Int32) (x2 : Int32) (x3 : Int32) (x4 : Int32) (r0 : Nat) (t0 : Int32) (t1 : Int32) (z : ow_MS) (H : Heap) (locs : List Loc) (ls : Array Slot), mw_net r0 → tw_M D vwCl mX q s.heap u z H locs → lv_has ls 5 [(0, .ref (u r0)), (1, .int x1), (2, .int x2)] → q_X12_isPlane K k 1 x1 x2 x3 x4 r0 t0 t1 z = some (r, z1) → W p l e ({ frames := 1, cells := 0, slots := 0, locals := 26 } : Room) s m args below meth c H locs 0 0 QQ (F0 m 17 ls [])) ∧ (∀ (x1 : Int32) (x2 : Int32) (x3 : Int32) (x4 : Int32) (r0 : Nat) (t0 : Int32) (t1 : Int32) (z : ow_MS) (H : Heap) (locs : List Loc) (ls : Array Slot), mw_net r0 → tw_M D vwCl mX q s.heap u z H locs → lv_has ls 5 [(0, .ref (u r0)), (1, .int x1), (2, .int x2), (3, .int x3), (4, .int x4)] → q_X12_isPlane K k 2 x1 x2 x3 x4 r0 t0 t1 z = some (r, z1) → W p l e ({ frames := 1, cells := 0, slots := 0, locals := 26 } : Room) s m args below meth c H locs 0 0 QQ (F0 m 30 ls [])) ∧ (∀ (x1 : Int32) (x2 : Int32) (x3 : Int32) (x4 : Int32) (r0 : Nat) (t0 : Int32) (t1 : Int32) (z : ow_MS) (H : Heap) (locs : List Loc) (ls : Array Slot), mw_net r0 → tw_M D vwCl mX q s.heap u z H locs → lv_has ls 5 [(0, .ref (u r0)), (1, .int x1), (2, .int x2), (3, .int x3), (4, .int x4)] → q_X12_isPlane K k 3 x1 x2 x3 x4 r0 t0 t1 z = some (r, z1) → W p l e ({ frames := 1, cells := 0, slots := 0, locals := 26 } : Room) s m args below meth c H locs 0 0 QQ (F0 m 64 ls [.int t0])) ∧ (∀ (x1 : Int32) (x2 : Int32) (x3 : Int32) (x4 : Int32) (r0 : Nat) (t0 : Int32) (t1 : Int32) (z : ow_MS) (H : Heap) (locs : List Loc) (ls : Array Slot), mw_net r0 → tw_M D vwCl mX q s.heap u z H locs → lv_has ls 5 [(0, .ref (u r0)), (1, .int x1), (2, .int x2), (3, .int x3), (4, .int x4)] → q_X12_isPlane K k 4 x1 x2 x3 x4 r0 t0 t1 z = some (r, z1) → W p l e ({ frames := 1, cells := 0, slots := 0, locals := 26 } : Room) s m args below meth c H locs 0 0 QQ (F0 m 65 ls [.int t0, .int t1])) ∧ (∀ (x1 : Int32) (x2 : Int32) (x3 : Int32) (x4 : Int32) (r0 : Nat) (t0 : Int32) (t1 : Int32) (z : ow_MS) (H : Heap) (locs : List Loc) (ls : Array Slot), mw_net r0 → tw_M D vwCl mX q s.heap u z H locs → lv_has ls 5 [(0, .ref (u r0)), (1, .int x1), (2, .int x2), (3, .int x3), (4, .int x4)] → q_X12_isPlane K k 5 x1 x2 x3 x4 r0 t0 t1 z = some (r, z1) → W p l e ({ frames := 1, cells := 0, slots := 0, locals := 26 } : Room) s m args below meth c H locs 0 0 QQ (F0 m 83 ls [.int t0, .int t1])) := by
    intro k
    induction k with
    | zero => exact ⟨fun _ _ _ _ _ _ _ _ _ _ _ _ _ _ hq => tw_no hq, fun _ _ _ _ _ _ _ _ _ _ _ _ _ _ hq => tw_no hq, fun _ _ _ _ _ _ _ _ _ _ _ _ _ _ hq => tw_no hq, fun _ _ _ _ _ _ _ _ _ _ _ _ _ _ hq => tw_no hq, fun _ _ _ _ _ _ _ _ _ _ _ _ _ _ hq => tw_no hq, fun _ _ _ _ _ _ _ _ _ _ _ _ _ _ hq => tw_no hq⟩
    | succ k ih =>
      obtain ⟨ih_0, ih_1, ih_2, ih_3, ih_4, ih_5⟩ := ih
      refine ⟨?_, ?_, ?_, ?_, ?_, ?_⟩
      · intro x1 x2 x3 x4 r0 t0 t1 z H locs ls hr0 hM hl hq
        have hq : qm_X12_isPlane_0 K (q_X12_isPlane K k) x1 x2 x3 x4 r0 t0 t1 z = some (r, z1) := hq
        unfold qm_X12_isPlane_0 at hq
        refine lv_aload_n hx hb dmX12_isPlane_0 rfl (lv_at hl 0 rfl) ?_
        obtain ⟨z1, hcq, hq⟩ := tw_cl0 hq
        refine tw_calv hM (va_runV (As := []) (rest := []) ⟨hx, hb, hml, hown, hts⟩ (km_X12_split l D q u hU K r0 hr0 z z1 hcq) (cwV 0 hts (tw_gV wM_good wq_38 wq_39 wq_40 wq_13 wq_33) rfl rfl rfl cd_X12_split ⟨(Nat.le_of_ble_eq_true rfl), (Nat.le_of_ble_eq_true rfl)⟩) (mw_preV hK hN hM (mo_n hr0) rfl) rfl rfl hl.1 rfl (lv_room (Nat.le_of_ble_eq_true rfl)) dmX12_isPlane_1 ⟨(Nat.le_of_ble_eq_true rfl), (Nat.le_of_ble_eq_true rfl)⟩) (fun H locs hM => ?_)
        refine lv_aload_n hx hb dmX12_isPlane_4 rfl (lv_at hl 0 rfl) ?_
        obtain ⟨z2, hcq, hq⟩ := tw_cl0 hq
        refine tw_calv hM (va_runV (As := []) (rest := []) ⟨hx, hb, hml, hown, hts⟩ (km_X12_walk l D q u hU K r0 hr0 z1 z2 hcq) (cwV 0 hts (tw_gV wM_good wq_41 wq_42 wq_43 wq_13 wq_37) rfl rfl rfl cd_X12_walk ⟨(Nat.le_of_ble_eq_true rfl), (Nat.le_of_ble_eq_true rfl)⟩) (mw_preV hK hN hM (mo_n hr0) rfl) rfl rfl hl.1 rfl (lv_room (Nat.le_of_ble_eq_true rfl)) dmX12_isPlane_5 ⟨(Nat.le_of_ble_eq_true rfl), (Nat.le_of_ble_eq_true rfl)⟩) (fun H locs hM => ?_)
        refine lv_aload_n hx hb dmX12_isPlane_8 rfl (lv_at hl 0 rfl) ?_
        refine mg12_48 hx hb hT hown hK hM hr0 hq dmX12_isPlane_9 (fun v3 hq => ?_)
        refine lv_iconst (v := 2) hx hb dmX12_isPlane_12 (by decide) ?_
        obtain ⟨hz, hq⟩ := tw_nzI hq
        refine lv_idiv hx hb dmX12_isPlane_13 hz ?_
        refine lv_istore_n (lv' := [(1, .int (v3 / 2)), (0, .ref (u r0))]) hx hb dmX12_isPlane_14 rfl hl (by decide) rfl (fun ls hl => ?_)
        refine lv_iconst (v := 0) hx hb dmX12_isPlane_15 (by decide) ?_
        refine lv_istore_n (lv' := [(2, .int 0), (1, .int (v3 / 2)), (0, .ref (u r0))]) hx hb dmX12_isPlane_16 rfl hl (by decide) rfl (fun ls hl => ?_)
        exact ih_1 (v3 / 2) 0 0 0 r0 0 0 z2 H locs ls hr0 hM (lv_sub hl [2, 1, 0] rfl) hq
      · intro x1 x2 x3 x4 r0 t0 t1 z H locs ls hr0 hM hl hq
        have hq : qm_X12_isPlane_1 K (q_X12_isPlane K k) x1 x2 x3 x4 r0 t0 t1 z = some (r, z1) := hq
        unfold qm_X12_isPlane_1 at hq
        refine lv_iload_n hx hb dmX12_isPlane_17 rfl (lv_at hl 2 rfl) ?_
        refine lv_aload_n hx hb dmX12_isPlane_18 rfl (lv_at hl 0 rfl) ?_
        refine mg12_69 hx hb hT hown hK hM hr0 hq dmX12_isPlane_19 (fun v4 hq => ?_)
        refine lv_icmp_ge (tgt := 91) hx hb dmX12_isPlane_22 (by decide) (fun hc => ?_) (fun hc => ?_)
        · have hq := tw_it hq hc
          refine lv_aload_n hx hb dmX12_isPlane_91 rfl (lv_at hl 0 rfl) ?_
          refine mg12_72 hx hb hT hown hK hM hr0 hq dmX12_isPlane_92 (fun v5 hq => ?_)
          refine lv_iload_n hx hb dmX12_isPlane_95 rfl (lv_at hl 1 rfl) ?_
          refine lv_icmp_ne (tgt := 103) hx hb dmX12_isPlane_96 (by decide) (fun hc => ?_) (fun hc => ?_)
          · have hq := tw_if hq hc
            refine lv_iconst (v := 0) hx hb dmX12_isPlane_103 (by decide) ?_
            obtain ⟨hz, hq⟩ := tw_gZ hq
            exact mw_zret hx hb hr hlocks hM hz hq hQQ dmX12_isPlane_104
          · have hq := tw_it hq hc
            refine lv_iconst (v := 1) hx hb dmX12_isPlane_99 (by decide) ?_
            refine lv_goto (tgt := 104) hx hb dmX12_isPlane_100 (by decide) ?_
            obtain ⟨hz, hq⟩ := tw_gZ hq
            exact mw_zret hx hb hr hlocks hM hz hq hQQ dmX12_isPlane_104
        · have hq := tw_if hq hc
          refine lv_iconst (v := 0) hx hb dmX12_isPlane_25 (by decide) ?_
          refine lv_istore_n (lv' := [(3, .int 0), (0, .ref (u r0)), (1, .int x1), (2, .int x2)]) hx hb dmX12_isPlane_26 rfl hl (by decide) rfl (fun ls hl => ?_)
          refine lv_iconst (v := 0) hx hb dmX12_isPlane_27 (by decide) ?_
          refine lv_istore (lv' := [(4, .int 0), (3, .int 0), (0, .ref (u r0)), (1, .int x1), (2, .int x2)]) hx hb dmX12_isPlane_28 hl (by decide) rfl (fun ls hl => ?_)
          exact ih_2 x1 x2 0 0 r0 0 0 z H locs ls hr0 hM (lv_sub hl [2, 3, 4, 1, 0] rfl) hq
      · intro x1 x2 x3 x4 r0 t0 t1 z H locs ls hr0 hM hl hq
        have hq : qm_X12_isPlane_2 K (q_X12_isPlane K k) x1 x2 x3 x4 r0 t0 t1 z = some (r, z1) := hq
        unfold qm_X12_isPlane_2 at hq
        refine lv_iload hx hb dmX12_isPlane_30 (lv_at hl 4 rfl) ?_
        refine lv_aload_n hx hb dmX12_isPlane_32 rfl (lv_at hl 0 rfl) ?_
        refine mg12_52 hx hb hT hown hK hM hr0 hq dmX12_isPlane_33 (fun v6 hq => ?_)
        refine lv_icmp_ge (tgt := 73) hx hb dmX12_isPlane_36 (by decide) (fun hc => ?_) (fun hc => ?_)
        · have hq := tw_it hq hc
          refine lv_iload_n hx hb dmX12_isPlane_73 rfl (lv_at hl 1 rfl) ?_
          refine lv_iload_n hx hb dmX12_isPlane_74 rfl (lv_at hl 3 rfl) ?_
          refine lv_if_eq (tgt := 82) hx hb dmX12_isPlane_75 (by decide) (fun hc => ?_) (fun hc => ?_)
          · have hq := tw_it hq hc
            refine lv_iconst (v := 0) hx hb dmX12_isPlane_82 (by decide) ?_
            exact ih_5 x1 x2 x3 x4 r0 0 x1 z H locs ls hr0 hM (lv_sub hl [0, 1, 2, 3, 4] rfl) hq
          · have hq := tw_if hq hc
            refine lv_iconst (v := 2) hx hb dmX12_isPlane_78 (by decide) ?_
            refine lv_goto (tgt := 83) hx hb dmX12_isPlane_79 (by decide) ?_
            exact ih_5 x1 x2 x3 x4 r0 2 x1 z H locs ls hr0 hM (lv_sub hl [0, 1, 2, 3, 4] rfl) hq
        · have hq := tw_if hq hc
          refine lv_iload_n hx hb dmX12_isPlane_39 rfl (lv_at hl 3 rfl) ?_
          refine lv_aload_n hx hb dmX12_isPlane_40 rfl (lv_at hl 0 rfl) ?_
          refine mg12_39 hx hb hT hown hK hM hr0 dmX12_isPlane_41 ?_
          refine lv_iload hx hb dmX12_isPlane_44 (lv_at hl 4 rfl) ?_
          refine tw_iald mX_ok hx hb hK hM (mrn_12 hr0) hq dmX12_isPlane_46 (fun v7 hq => ?_)
          refine lv_iload_n hx hb dmX12_isPlane_47 rfl (lv_at hl 2 rfl) ?_
          refine lv_icmp_ne (tgt := 64) hx hb dmX12_isPlane_48 (by decide) (fun hc => ?_) (fun hc => ?_)
          · have hq := tw_if hq hc
            exact ih_3 x1 x2 x3 x4 r0 x3 0 z H locs ls hr0 hM (lv_sub hl [0, 1, 2, 3, 4] rfl) hq
          · have hq := tw_it hq hc
            refine lv_aload_n hx hb dmX12_isPlane_51 rfl (lv_at hl 0 rfl) ?_
            refine lv_iload hx hb dmX12_isPlane_52 (lv_at hl 4 rfl) ?_
            obtain ⟨v9, z8, hcq, hq⟩ := tw_cl1 hq
            refine tw_cali hM (va_runV (As := [.int x4]) (rest := [.int x3]) ⟨hx, hb, hml, hown, hts⟩ (km_X12_isCircle l D q u hU K r0 x4 hr0 z z8 v9 hcq) (cwV 1 hts (tw_gV wM_good wq_44 wq_45 wq_46 wq_13 wq_24) rfl rfl rfl cd_X12_isCircle ⟨(Nat.le_of_ble_eq_true rfl), (Nat.le_of_ble_eq_true rfl)⟩) (mw_preV hK hN hM (mo_n hr0) rfl) rfl rfl hl.1 rfl (lv_room (Nat.le_of_ble_eq_true rfl)) dmX12_isPlane_54 ⟨(Nat.le_of_ble_eq_true rfl), (Nat.le_of_ble_eq_true rfl)⟩) (fun H locs hM => ?_)
            refine lv_if_ne (tgt := 64) hx hb dmX12_isPlane_57 (by decide) (fun hc => ?_) (fun hc => ?_)
            · have hq := tw_if hq hc
              exact ih_3 x1 x2 x3 x4 r0 x3 0 z8 H locs ls hr0 hM (lv_sub hl [0, 1, 2, 3, 4] rfl) hq
            · have hq := tw_it hq hc
              refine lv_iconst (v := 1) hx hb dmX12_isPlane_60 (by decide) ?_
              refine lv_goto (tgt := 65) hx hb dmX12_isPlane_61 (by decide) ?_
              exact ih_4 x1 x2 x3 x4 r0 1 x3 z8 H locs ls hr0 hM (lv_sub hl [0, 1, 2, 3, 4] rfl) hq
      · intro x1 x2 x3 x4 r0 t0 t1 z H locs ls hr0 hM hl hq
        have hq : qm_X12_isPlane_3 K (q_X12_isPlane K k) x1 x2 x3 x4 r0 t0 t1 z = some (r, z1) := hq
        unfold qm_X12_isPlane_3 at hq
        refine lv_iconst (v := 0) hx hb dmX12_isPlane_64 (by decide) ?_
        exact ih_4 x1 x2 x3 x4 r0 0 t0 z H locs ls hr0 hM (lv_sub hl [0, 1, 2, 3, 4] rfl) hq
      · intro x1 x2 x3 x4 r0 t0 t1 z H locs ls hr0 hM hl hq
        have hq : qm_X12_isPlane_4 K (q_X12_isPlane K k) x1 x2 x3 x4 r0 t0 t1 z = some (r, z1) := hq
        unfold qm_X12_isPlane_4 at hq
        refine lv_ior hx hb dmX12_isPlane_65 ?_
        refine lv_istore_n (lv' := [(3, .int (t1 ||| t0)), (0, .ref (u r0)), (1, .int x1), (2, .int x2), (4, .int x4)]) hx hb dmX12_isPlane_66 rfl hl (by decide) rfl (fun ls hl => ?_)
        refine lv_iinc (v := (x4 + 1)) (lv' := [(4, .int (x4 + 1)), (3, .int (t1 ||| t0)), (0, .ref (u r0)), (1, .int x1), (2, .int x2)]) hx hb dmX12_isPlane_67 hl (k := 4) rfl rfl (by decide) rfl (fun ls hl => ?_)
        refine lv_goto (tgt := 30) hx hb dmX12_isPlane_70 (by decide) ?_
        exact ih_2 x1 x2 (t1 ||| t0) (x4 + 1) r0 0 0 z H locs ls hr0 hM (lv_sub hl [2, 3, 4, 1, 0] rfl) hq
      · intro x1 x2 x3 x4 r0 t0 t1 z H locs ls hr0 hM hl hq
        have hq : qm_X12_isPlane_5 K (q_X12_isPlane K k) x1 x2 x3 x4 r0 t0 t1 z = some (r, z1) := hq
        unfold qm_X12_isPlane_5 at hq
        refine lv_iadd hx hb dmX12_isPlane_83 ?_
        refine lv_istore_n (lv' := [(1, .int (t1 + t0)), (0, .ref (u r0)), (2, .int x2), (3, .int x3), (4, .int x4)]) hx hb dmX12_isPlane_84 rfl hl (by decide) rfl (fun ls hl => ?_)
        refine lv_iinc (v := (x2 + 1)) (lv' := [(2, .int (x2 + 1)), (1, .int (t1 + t0)), (0, .ref (u r0)), (3, .int x3), (4, .int x4)]) hx hb dmX12_isPlane_85 hl (k := 2) rfl rfl (by decide) rfl (fun ls hl => ?_)
        refine lv_goto (tgt := 17) hx hb dmX12_isPlane_88 (by decide) ?_
        exact ih_1 (t1 + t0) (x2 + 1) 0 0 r0 0 0 z H locs ls hr0 hM (lv_sub hl [2, 1, 0] rfl) hq
  exact (key K).1 0 0 0 0 r0 0 0 z s.heap [] ls hr0 hM (lv_sub hl [0] rfl) hq
