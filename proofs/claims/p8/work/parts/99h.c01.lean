theorem cw_no {O : Type} {out : O} {P : Prop} (h : (none : Option O) = some out) : P := nomatch h
section CPURE
variable {p : Program} {l : Launch} {e : Env} {R : Room} {s : State} {m : MethodId} {args : Array Value} {below : List Frame} {meth : Method} {c : Code} {H : Heap} {locs : List Loc} {cells slots : Nat} {Q : State → Prop}
variable {cc : ByteArray} {pc : Nat} {ls : Array Slot} {rest : List Value} {D : va_G} {A : Nat → Prop} {H0 : Heap} {q : Nat → ClassId} {vl u : Nat → Nat} {z : ow_MS}
theorem cw_pure {a : Array Value} {st0 : List Value} {y : Int32} (hM : uw_M D vwCl (cX vl) q A H0 u z H locs) (hr : va_Run p l e R s m args below meth c H locs cells slots 0 0 (F0 m pc ls st0) rest (va_Qi (fun r (_ : Unit) => r = y) (fun _ _ => True) (fun _ => False) a) (fun _ => False)) (kk : ∀ H1 locs1, uw_M D vwCl (cX vl) q A H0 u z H1 locs1 → W p l e R s m args below meth c H1 locs1 cells slots Q (F0 m (pc + 3) ls (.int y :: rest))) : W p l e R s m args below meth c H locs cells slots Q (F0 m pc ls st0) := by
  refine va_calli hr hM.2 (fun _ _ h => h.elim) (fun _ h => h.elim) (fun r1 _ t H1 locs1 ht _ hw hB _ hk1 hS => ?_)
  rw [hw]
  exact kk H1 locs1 ⟨hM.1.kept (fun k9 x9 h9 => hk1 x9.1 ((hM.1 k9 x9 h9).lt) id), hS⟩
theorem uw_alen4 {cl : List vw_C} {X : ow_Tb} {C5 : String} {h : Nat} (hO : uw_ok X) (hx : p.tables.exec = Jvm.exec) (hb : c.code = cc) (hK : va_K D cl (uw_T q C5) s) (hM : uw_M D cl X q A H0 u z H locs) (hh : tw_in X h 4) (hdg : decode cc pc = .ok (.arraylength, 1)) (kk : W p l e R s m args below meth c H locs cells slots Q (F0 m (pc + 1) ls (.int (Int32.ofNat (X.2 h).2.1) :: rest))) : W p l e R s m args below meth c H locs cells slots Q (F0 m pc ls (.ref (u h) :: rest)) := by
  obtain ⟨k, hk, _⟩ := uw_at hO hh.1
  have h1 := hk q u z
  rw [uw_c4 q u z hh] at h1
  exact va_alen hx hb hK hM.1 k 4 h1 rfl rfl hdg kk
end CPURE
theorem cw_gbc {c0 : Cond} {own : String} {idx : Nat} (h : Cond.methodLink own idx yJ6_bitCount_0f7a4 ∈ wC) : GoodIn (c0 :: wC) (va_wsS own idx yJ6_bitCount_0f7a4 wsJ6_bitCount_0f7a4) := by
  have g : ∀ w ∈ wC, w ∈ c0 :: wC ∧ ((w.onTables && w.keeps) = true ∨ ∃ ty, w = .arrayClass ty) := fun w h => ⟨List.mem_cons_of_mem _ h, good_of_word (List.all_eq_true.mp wC_good w h)⟩
  intro w hw
  unfold va_wsS wsJ6_bitCount_0f7a4 at hw
  simp only [List.mem_append, List.mem_cons, List.not_mem_nil, or_false, List.append_nil] at hw
  rcases hw with (rfl | rfl | rfl) | rfl | rfl | rfl | rfl
  · exact g _ h
  · exact g _ xq_84
  · exact g _ xq_85
  · exact g _ xq_86
  · exact g _ xq_87
  · exact g _ xq_88
  · exact g _ xq_89
theorem dcJ7_rangeCheck_23922_0 : decode cJ7_rangeCheck_23922 0 = .ok (.iload_n 1, 1) := dw_at cJ7_rangeCheck_23922_k0 (p := 0) rfl (by decide +kernel)
theorem dcJ7_rangeCheck_23922_1 : decode cJ7_rangeCheck_23922 1 = .ok (.iload_n 2, 1) := dw_at cJ7_rangeCheck_23922_k0 (p := 1) rfl (by decide +kernel)
theorem dcJ7_rangeCheck_23922_2 : decode cJ7_rangeCheck_23922 2 = .ok (.if_icmp .le 44, 3) := dw_at cJ7_rangeCheck_23922_k0 (p := 2) rfl (by decide +kernel)
theorem dcJ7_rangeCheck_23922_46 : decode cJ7_rangeCheck_23922 46 = .ok (.iload_n 1, 1) := dw_at cJ7_rangeCheck_23922_k1 (p := 21) rfl (by decide +kernel)
theorem dcJ7_rangeCheck_23922_47 : decode cJ7_rangeCheck_23922 47 = .ok (.ifCond .ge 12, 3) := dw_at cJ7_rangeCheck_23922_k1 (p := 22) rfl (by decide +kernel)
theorem dcJ7_rangeCheck_23922_59 : decode cJ7_rangeCheck_23922 59 = .ok (.iload_n 2, 1) := dw_at cJ7_rangeCheck_23922_k2 (p := 9) rfl (by decide +kernel)
theorem dcJ7_rangeCheck_23922_60 : decode cJ7_rangeCheck_23922 60 = .ok (.iload_n 0, 1) := dw_at cJ7_rangeCheck_23922_k2 (p := 10) rfl (by decide +kernel)
theorem dcJ7_rangeCheck_23922_61 : decode cJ7_rangeCheck_23922 61 = .ok (.if_icmp .le 12, 3) := dw_at cJ7_rangeCheck_23922_k2 (p := 11) rfl (by decide +kernel)
theorem dcJ7_rangeCheck_23922_73 : decode cJ7_rangeCheck_23922 73 = .ok (.return_, 1) := dw_at cJ7_rangeCheck_23922_k2 (p := 23) rfl (by decide +kernel)
def cm_J7_rangeCheck_23922_0 (vl : Nat → Nat) (K : Nat) (x0 : Int32) (x1 : Int32) (x2 : Int32) (z : ow_MS) : Option ow_MS :=
 (if x1 ≤ x2 then (if 0 ≤ x1 then (if x2 ≤ x0 then some z
 else none)
 else none)
 else none)
def ce_J7_rangeCheck_23922 (vl : Nat → Nat) (K : Nat) (x0 : Int32) (x1 : Int32) (x2 : Int32) (z : ow_MS) : Option ow_MS := cm_J7_rangeCheck_23922_0 vl K x0 x1 x2 z
abbrev wc_J7_rangeCheck_23922 : List Cond := .code yJ7_rangeCheck_23922 cJ7_rangeCheck_23922 3 none :: wC
theorem cdd_J7_rangeCheck_23922 : yJ7_rangeCheck_23922.cls ≠ "java/lang/invoke/MethodHandle" ∧ yJ7_rangeCheck_23922.cls ≠ "java/lang/invoke/VarHandle" ∧ (parseMethodDescriptor yJ7_rangeCheck_23922.desc).map (fun d => d.parameters.length) = some 3 := by decide +kernel
set_option maxHeartbeats 4000000 in
set_option maxRecDepth 100000 in
theorem kc_J7_rangeCheck_23922 (l : Launch) (D : va_G) (q : Nat → ClassId) (vl u : Nat → Nat) (hU0 : tw_inj (cX vl) u) (K : Nat) (x0 : Int32) (x1 : Int32) (x2 : Int32)  (z z1 : ow_MS) (hq : ce_J7_rangeCheck_23922 vl K x0 x1 x2 z = some z1) : Met l yJ7_rangeCheck_23922 wc_J7_rangeCheck_23922 ({ frames := 0, cells := 0, slots := 0, locals := 0 } : Room) (va_Pc [.int x0, .int x1, .int x2] (cw_pre D q vl u z)) (va_Qv (fun (_ : Unit) => True) (fun _ t => va_P D vwCl (uw (cX vl) q u z1) t.heap) (tw_A (cX vl) u)) 0 0 (tw_A (cX vl) u) := by
  refine Met.ofW (cc := cJ7_rangeCheck_23922) (maxL := 3) (ret := none) (by decide) rfl ?_
  intro p e s m args below meth c s₁ B hml hv
  obtain ⟨rfl, hP, hK⟩ := hv
  have hx := B.exec
  have hb := B.bytes
  have hr := B.returns
  have hts := atoms_spec (ws := wc_J7_rangeCheck_23922) B.pre
  have hT : ∀ w ∈ wC, w.before ([.int x0, .int x1, .int x2] : List Value).toArray s = true := fun w h => hts w (List.mem_cons_of_mem _ h)
  have hown : s.vm.findClass RJ7 = some m.cls := findClass_of_methodNamed B.named
  have hlocks := B.notSynchronized
  have hU : uw_inj (cX vl) u (tw_A (cX vl) u) := ⟨hU0, fun h hh => ⟨h, hh, rfl⟩⟩
  have hM : uw_M D vwCl (cX vl) q (tw_A (cX vl) u) s.heap u z s.heap [] := ⟨hP, va_S.rf⟩
  have hl := lv_entry ([.int x0, .int x1, .int x2]) (n := 3) (Nat.le_of_ble_eq_true rfl)
  rw [lg_entry_eq]
  generalize (lg_sl ([.int x0, .int x1, .int x2]) ++ List.replicate (3 - (lg_sl ([.int x0, .int x1, .int x2])).length) Slot.unset).toArray = ls at hl ⊢
  have hl : lv_has ls 3 [(0, .int x0), (1, .int x1), (2, .int x2)] := hl
  refine ow_named (fun QQ hQQ => ?_)
  generalize ([.int x0, .int x1, .int x2] : List Value).toArray = args at hts hT hQQ ⊢
  have hq : cm_J7_rangeCheck_23922_0 vl K x0 x1 x2 z = some z1 := hq
  unfold cm_J7_rangeCheck_23922_0 at hq
  suffices key : ∀ (H : Heap) (locs : List Loc), uw_M D vwCl (cX vl) q (tw_A (cX vl) u) s.heap u z H locs → W p l e ({ frames := 0, cells := 0, slots := 0, locals := 0 } : Room) s m args below meth c H locs 0 0 QQ (F0 m 0 ls []) from key s.heap [] hM
  intro H locs hM
  refine lv_iload_n hx hb dcJ7_rangeCheck_23922_0 rfl (lv_at hl 1 rfl) ?_
  refine lv_iload_n hx hb dcJ7_rangeCheck_23922_1 rfl (lv_at hl 2 rfl) ?_
  refine lv_icmp_le (tgt := 46) hx hb dcJ7_rangeCheck_23922_2 (by decide) (fun hc => ?_) (fun hc => ?_)
  · have hq := tw_it hq hc
    refine lv_iload_n hx hb dcJ7_rangeCheck_23922_46 rfl (lv_at hl 1 rfl) ?_
    refine lv_if_ge (tgt := 59) hx hb dcJ7_rangeCheck_23922_47 (by decide) (fun hc => ?_) (fun hc => ?_)
    · have hq := tw_it hq hc
      refine lv_iload_n hx hb dcJ7_rangeCheck_23922_59 rfl (lv_at hl 2 rfl) ?_
      refine lv_iload_n hx hb dcJ7_rangeCheck_23922_60 rfl (lv_at hl 0 rfl) ?_
      refine lv_icmp_le (tgt := 73) hx hb dcJ7_rangeCheck_23922_61 (by decide) (fun hc => ?_) (fun hc => ?_)
      · have hq := tw_it hq hc
        exact cw_vret hx hb hr hlocks hM hq hQQ dcJ7_rangeCheck_23922_73
      · have hq := tw_if hq hc
        exact cw_no hq
    · have hq := tw_if hq hc
      exact cw_no hq
  · have hq := tw_if hq hc
    exact cw_no hq
theorem dcJ7_fill_fda19_0 : decode cJ7_fill_fda19 0 = .ok (.aload_n 0, 1) := by decide +kernel
theorem dcJ7_fill_fda19_1 : decode cJ7_fill_fda19 1 = .ok (.arraylength, 1) := by decide +kernel
theorem dcJ7_fill_fda19_2 : decode cJ7_fill_fda19 2 = .ok (.iload_n 1, 1) := by decide +kernel
theorem dcJ7_fill_fda19_3 : decode cJ7_fill_fda19 3 = .ok (.iload_n 2, 1) := by decide +kernel
theorem dcJ7_fill_fda19_4 : decode cJ7_fill_fda19 4 = .ok (.invokestatic 13, 3) := by decide +kernel
theorem dcJ7_fill_fda19_7 : decode cJ7_fill_fda19 7 = .ok (.iload_n 1, 1) := by decide +kernel
theorem dcJ7_fill_fda19_8 : decode cJ7_fill_fda19 8 = .ok (.istore 4, 2) := by decide +kernel
theorem dcJ7_fill_fda19_10 : decode cJ7_fill_fda19 10 = .ok (.iload 4, 2) := by decide +kernel
theorem dcJ7_fill_fda19_12 : decode cJ7_fill_fda19 12 = .ok (.iload_n 2, 1) := by decide +kernel
theorem dcJ7_fill_fda19_13 : decode cJ7_fill_fda19 13 = .ok (.if_icmp .ge 14, 3) := by decide +kernel
theorem dcJ7_fill_fda19_16 : decode cJ7_fill_fda19 16 = .ok (.aload_n 0, 1) := by decide +kernel
theorem dcJ7_fill_fda19_17 : decode cJ7_fill_fda19 17 = .ok (.iload 4, 2) := by decide +kernel
theorem dcJ7_fill_fda19_19 : decode cJ7_fill_fda19 19 = .ok (.iload_n 3, 1) := by decide +kernel
theorem dcJ7_fill_fda19_20 : decode cJ7_fill_fda19 20 = .ok (.iastore, 1) := by decide +kernel
theorem dcJ7_fill_fda19_21 : decode cJ7_fill_fda19 21 = .ok (.iinc 4 1, 3) := by decide +kernel
theorem dcJ7_fill_fda19_24 : decode cJ7_fill_fda19 24 = .ok (.goto (-14), 3) := by decide +kernel
theorem dcJ7_fill_fda19_27 : decode cJ7_fill_fda19 27 = .ok (.return_, 1) := by decide +kernel
def cm_J7_fill_fda19_0 (vl : Nat → Nat) (K : Nat) (go : Nat → Int32 → Int32 → Int32 → Int32 → Nat → ow_MS → Option ow_MS) (x1 : Int32) (x2 : Int32) (x3 : Int32) (x4 : Int32) (r0 : Nat) (z : ow_MS) : Option ow_MS :=
 cs0 (ce_J7_rangeCheck_23922 vl K (Int32.ofNat (uw_len (cX vl) z r0)) x1 x2 z) fun z1 => go 1 x1 x2 x3 x1 r0 z1
def cm_J7_fill_fda19_1 (vl : Nat → Nat) (K : Nat) (go : Nat → Int32 → Int32 → Int32 → Int32 → Nat → ow_MS → Option ow_MS) (x1 : Int32) (x2 : Int32) (x3 : Int32) (x4 : Int32) (r0 : Nat) (z : ow_MS) : Option ow_MS :=
 (if x2 ≤ x4 then some z
 else ctI (cX vl) z r0 x4 x3 fun z2 => go 1 x1 x2 x3 (x4 + 1) r0 z2)
def cb_J7_fill_fda19 (vl : Nat → Nat) (K : Nat) (go : Nat → Int32 → Int32 → Int32 → Int32 → Nat → ow_MS → Option ow_MS) (L : Nat) (x1 : Int32) (x2 : Int32) (x3 : Int32) (x4 : Int32) (r0 : Nat) (z : ow_MS) : Option ow_MS := match L with
  | 0 => cm_J7_fill_fda19_0 vl K go x1 x2 x3 x4 r0 z
  | 1 => cm_J7_fill_fda19_1 vl K go x1 x2 x3 x4 r0 z
  | _ => none
def c_J7_fill_fda19 (vl : Nat → Nat) (K : Nat) : Nat → Nat → Int32 → Int32 → Int32 → Int32 → Nat → ow_MS → Option ow_MS
  | 0 => fun _ _ _ _ _ _ _ => none
  | k + 1 => cb_J7_fill_fda19 vl K (c_J7_fill_fda19 vl K k)
def ce_J7_fill_fda19 (vl : Nat → Nat) (K : Nat) (r0 : Nat) (x1 : Int32) (x2 : Int32) (x3 : Int32) (z : ow_MS) : Option ow_MS := c_J7_fill_fda19 vl K K 0 x1 x2 x3 0 r0 z
abbrev wc_J7_fill_fda19 : List Cond := .code yJ7_fill_fda19 cJ7_fill_fda19 5 none :: wC
theorem cdd_J7_fill_fda19 : yJ7_fill_fda19.cls ≠ "java/lang/invoke/MethodHandle" ∧ yJ7_fill_fda19.cls ≠ "java/lang/invoke/VarHandle" ∧ (parseMethodDescriptor yJ7_fill_fda19.desc).map (fun d => d.parameters.length) = some 4 := by decide +kernel
set_option maxHeartbeats 4000000 in
set_option maxRecDepth 100000 in
theorem kc_J7_fill_fda19 (l : Launch) (D : va_G) (q : Nat → ClassId) (vl u : Nat → Nat) (hU0 : tw_inj (cX vl) u) (K : Nat) (r0 : Nat) (x1 : Int32) (x2 : Int32) (x3 : Int32) (hr0 : tw_in (cX vl) r0 0) (z z1 : ow_MS) (hq : ce_J7_fill_fda19 vl K r0 x1 x2 x3 z = some z1) : Met l yJ7_fill_fda19 wc_J7_fill_fda19 ({ frames := 1, cells := 0, slots := 0, locals := 22 } : Room) (va_Pc [.ref (u r0), .int x1, .int x2, .int x3] (cw_pre D q vl u z)) (va_Qv (fun (_ : Unit) => True) (fun _ t => va_P D vwCl (uw (cX vl) q u z1) t.heap) (tw_A (cX vl) u)) 0 0 (tw_A (cX vl) u) := by
  refine Met.ofW (cc := cJ7_fill_fda19) (maxL := 5) (ret := none) (by decide) rfl ?_
  intro p e s m args below meth c s₁ B hml hv
  obtain ⟨rfl, hP, hK⟩ := hv
  have hx := B.exec
  have hb := B.bytes
  have hr := B.returns
  have hts := atoms_spec (ws := wc_J7_fill_fda19) B.pre
  have hT : ∀ w ∈ wC, w.before ([.ref (u r0), .int x1, .int x2, .int x3] : List Value).toArray s = true := fun w h => hts w (List.mem_cons_of_mem _ h)
  have hown : s.vm.findClass RJ7 = some m.cls := findClass_of_methodNamed B.named
  have hlocks := B.notSynchronized
  have hU : uw_inj (cX vl) u (tw_A (cX vl) u) := ⟨hU0, fun h hh => ⟨h, hh, rfl⟩⟩
  have hM : uw_M D vwCl (cX vl) q (tw_A (cX vl) u) s.heap u z s.heap [] := ⟨hP, va_S.rf⟩
  have hl := lv_entry ([.ref (u r0), .int x1, .int x2, .int x3]) (n := 5) (Nat.le_of_ble_eq_true rfl)
  rw [lg_entry_eq]
  generalize (lg_sl ([.ref (u r0), .int x1, .int x2, .int x3]) ++ List.replicate (5 - (lg_sl ([.ref (u r0), .int x1, .int x2, .int x3])).length) Slot.unset).toArray = ls at hl ⊢
  have hl : lv_has ls 5 [(0, .ref (u r0)), (1, .int x1), (2, .int x2), (3, .int x3)] := hl
  refine ow_named (fun QQ hQQ => ?_)
  generalize ([.ref (u r0), .int x1, .int x2, .int x3] : List Value).toArray = args at hts hT hQQ ⊢
  have key : ∀ k : Nat, (∀ (x1 : Int32) (x2 : Int32) (x3 : Int32) (x4 : Int32) (r0 : Nat) (z : ow_MS) (H : Heap) (locs : List Loc) (ls : Array Slot), tw_in (cX vl) r0 0 → uw_M D vwCl (cX vl) q (tw_A (cX vl) u) s.heap u z H locs → lv_has ls 5 [(0, .ref (u r0)), (1, .int x1), (2, .int x2), (3, .int x3)] → c_J7_fill_fda19 vl K k 0 x1 x2 x3 x4 r0 z = some z1 → W p l e ({ frames := 1, cells := 0, slots := 0, locals := 22 } : Room) s m args below meth c H locs 0 0 QQ (F0 m 0 ls [])) ∧ (∀ (x1 : Int32) (x2 : Int32) (x3 : Int32) (x4 : Int32) (r0 : Nat) (z : ow_MS) (H : Heap) (locs : List Loc) (ls : Array Slot), tw_in (cX vl) r0 0 → uw_M D vwCl (cX vl) q (tw_A (cX vl) u) s.heap u z H locs → lv_has ls 5 [(0, .ref (u r0)), (1, .int x1), (2, .int x2), (3, .int x3), (4, .int x4)] → c_J7_fill_fda19 vl K k 1 x1 x2 x3 x4 r0 z = some z1 → W p l e ({ frames := 1, cells := 0, slots := 0, locals := 22 } : Room) s m args below meth c H locs 0 0 QQ (F0 m 10 ls [])) := by
    intro k
    induction k with
    | zero => exact ⟨fun _ _ _ _ _ _ _ _ _ _ _ _ hq => cw_no hq, fun _ _ _ _ _ _ _ _ _ _ _ _ hq => cw_no hq⟩
    | succ k ih =>
      obtain ⟨ih_0, ih_1⟩ := ih
      refine ⟨?_, ?_⟩
      · intro x1 x2 x3 x4 r0 z H locs ls hr0 hM hl hq
        have hq : cm_J7_fill_fda19_0 vl K (c_J7_fill_fda19 vl K k) x1 x2 x3 x4 r0 z = some z1 := hq
        unfold cm_J7_fill_fda19_0 at hq
        refine lv_aload_n hx hb dcJ7_fill_fda19_0 rfl (lv_at hl 0 rfl) ?_
        refine uw_alen cX_ok hx hb hK hM hr0 dcJ7_fill_fda19_1 ?_
        refine lv_iload_n hx hb dcJ7_fill_fda19_2 rfl (lv_at hl 1 rfl) ?_
        refine lv_iload_n hx hb dcJ7_fill_fda19_3 rfl (lv_at hl 2 rfl) ?_
        obtain ⟨z1, hcq, hq⟩ := tw_cl0 hq
        refine uw_calv hU hM (va_runS (As := [.int (Int32.ofNat (uw_len (cX vl) z r0)), .int x1, .int x2]) (rest := []) ⟨hx, hb, hml, hown, hts⟩ (kc_J7_rangeCheck_23922 l D q vl u hU.1 K (Int32.ofNat (uw_len (cX vl) z r0)) x1 x2 z z1 hcq) (va_cwS 3 hts (tw_gS wC_good xq_64 xq_65 xq_9 xq_66) rfl rfl rfl cdd_J7_rangeCheck_23922 ⟨(Nat.le_of_ble_eq_true rfl), (Nat.le_of_ble_eq_true rfl)⟩) (cw_preS hK hM) rfl rfl hl.1 rfl (lv_room (Nat.le_of_ble_eq_true rfl)) dcJ7_fill_fda19_4 ⟨(Nat.le_of_ble_eq_true rfl), (Nat.le_of_ble_eq_true rfl)⟩) (fun H locs hM => ?_)
        refine lv_iload_n hx hb dcJ7_fill_fda19_7 rfl (lv_at hl 1 rfl) ?_
        refine lv_istore (lv' := [(4, .int x1), (0, .ref (u r0)), (1, .int x1), (2, .int x2), (3, .int x3)]) hx hb dcJ7_fill_fda19_8 hl (by decide) rfl (fun ls hl => ?_)
        exact ih_1 x1 x2 x3 x1 r0 z1 H locs ls hr0 hM (lv_sub hl [1, 2, 3, 4, 0] rfl) hq
      · intro x1 x2 x3 x4 r0 z H locs ls hr0 hM hl hq
        have hq : cm_J7_fill_fda19_1 vl K (c_J7_fill_fda19 vl K k) x1 x2 x3 x4 r0 z = some z1 := hq
        unfold cm_J7_fill_fda19_1 at hq
        refine lv_iload hx hb dcJ7_fill_fda19_10 (lv_at hl 4 rfl) ?_
        refine lv_iload_n hx hb dcJ7_fill_fda19_12 rfl (lv_at hl 2 rfl) ?_
        refine lv_icmp_ge (tgt := 27) hx hb dcJ7_fill_fda19_13 (by decide) (fun hc => ?_) (fun hc => ?_)
        · have hq := tw_it hq hc
          exact cw_vret hx hb hr hlocks hM hq hQQ dcJ7_fill_fda19_27
        · have hq := tw_if hq hc
          refine lv_aload_n hx hb dcJ7_fill_fda19_16 rfl (lv_at hl 0 rfl) ?_
          refine lv_iload hx hb dcJ7_fill_fda19_17 (lv_at hl 4 rfl) ?_
          refine lv_iload_n hx hb dcJ7_fill_fda19_19 rfl (lv_at hl 3 rfl) ?_
          refine uw_iast cX_ok hU hx hb hK hM hr0 hq dcJ7_fill_fda19_20 (fun z2 H locs hM hq => ?_)
          refine lv_iinc (v := (x4 + 1)) (lv' := [(4, .int (x4 + 1)), (0, .ref (u r0)), (1, .int x1), (2, .int x2), (3, .int x3)]) hx hb dcJ7_fill_fda19_21 hl (k := 4) rfl rfl (by decide) rfl (fun ls hl => ?_)
          refine lv_goto (tgt := 10) hx hb dcJ7_fill_fda19_24 (by decide) ?_
          exact ih_1 x1 x2 x3 (x4 + 1) r0 z2 H locs ls hr0 hM (lv_sub hl [1, 2, 3, 4, 0] rfl) hq
  exact (key K).1 x1 x2 x3 0 r0 z s.heap [] ls hr0 hM (lv_sub hl [0, 1, 2, 3] rfl) hq
theorem dcJ7_fill_53178_0 : decode cJ7_fill_53178 0 = .ok (.iconst 0, 1) := by decide +kernel
theorem dcJ7_fill_53178_1 : decode cJ7_fill_53178 1 = .ok (.istore_n 2, 1) := by decide +kernel
theorem dcJ7_fill_53178_2 : decode cJ7_fill_53178 2 = .ok (.aload_n 0, 1) := by decide +kernel
theorem dcJ7_fill_53178_3 : decode cJ7_fill_53178 3 = .ok (.arraylength, 1) := by decide +kernel
theorem dcJ7_fill_53178_4 : decode cJ7_fill_53178 4 = .ok (.istore_n 3, 1) := by decide +kernel
theorem dcJ7_fill_53178_5 : decode cJ7_fill_53178 5 = .ok (.iload_n 2, 1) := by decide +kernel
theorem dcJ7_fill_53178_6 : decode cJ7_fill_53178 6 = .ok (.iload_n 3, 1) := by decide +kernel
theorem dcJ7_fill_53178_7 : decode cJ7_fill_53178 7 = .ok (.if_icmp .ge 13, 3) := by decide +kernel
theorem dcJ7_fill_53178_10 : decode cJ7_fill_53178 10 = .ok (.aload_n 0, 1) := by decide +kernel
theorem dcJ7_fill_53178_11 : decode cJ7_fill_53178 11 = .ok (.iload_n 2, 1) := by decide +kernel
theorem dcJ7_fill_53178_12 : decode cJ7_fill_53178 12 = .ok (.iload_n 1, 1) := by decide +kernel
theorem dcJ7_fill_53178_13 : decode cJ7_fill_53178 13 = .ok (.iastore, 1) := by decide +kernel
theorem dcJ7_fill_53178_14 : decode cJ7_fill_53178 14 = .ok (.iinc 2 1, 3) := by decide +kernel
theorem dcJ7_fill_53178_17 : decode cJ7_fill_53178 17 = .ok (.goto (-12), 3) := by decide +kernel
theorem dcJ7_fill_53178_20 : decode cJ7_fill_53178 20 = .ok (.return_, 1) := by decide +kernel
def cm_J7_fill_53178_0 (vl : Nat → Nat) (K : Nat) (go : Nat → Int32 → Int32 → Int32 → Nat → ow_MS → Option ow_MS) (x1 : Int32) (x2 : Int32) (x3 : Int32) (r0 : Nat) (z : ow_MS) : Option ow_MS :=
 go 1 x1 0 (Int32.ofNat (uw_len (cX vl) z r0)) r0 z
def cm_J7_fill_53178_1 (vl : Nat → Nat) (K : Nat) (go : Nat → Int32 → Int32 → Int32 → Nat → ow_MS → Option ow_MS) (x1 : Int32) (x2 : Int32) (x3 : Int32) (r0 : Nat) (z : ow_MS) : Option ow_MS :=
 (if x3 ≤ x2 then some z
 else ctI (cX vl) z r0 x2 x1 fun z1 => go 1 x1 (x2 + 1) x3 r0 z1)
def cb_J7_fill_53178 (vl : Nat → Nat) (K : Nat) (go : Nat → Int32 → Int32 → Int32 → Nat → ow_MS → Option ow_MS) (L : Nat) (x1 : Int32) (x2 : Int32) (x3 : Int32) (r0 : Nat) (z : ow_MS) : Option ow_MS := match L with
  | 0 => cm_J7_fill_53178_0 vl K go x1 x2 x3 r0 z
  | 1 => cm_J7_fill_53178_1 vl K go x1 x2 x3 r0 z
  | _ => none
def c_J7_fill_53178 (vl : Nat → Nat) (K : Nat) : Nat → Nat → Int32 → Int32 → Int32 → Nat → ow_MS → Option ow_MS
  | 0 => fun _ _ _ _ _ _ => none
  | k + 1 => cb_J7_fill_53178 vl K (c_J7_fill_53178 vl K k)
def ce_J7_fill_53178 (vl : Nat → Nat) (K : Nat) (r0 : Nat) (x1 : Int32) (z : ow_MS) : Option ow_MS := c_J7_fill_53178 vl K K 0 x1 0 0 r0 z
abbrev wc_J7_fill_53178 : List Cond := .code yJ7_fill_53178 cJ7_fill_53178 4 none :: wC
theorem cdd_J7_fill_53178 : yJ7_fill_53178.cls ≠ "java/lang/invoke/MethodHandle" ∧ yJ7_fill_53178.cls ≠ "java/lang/invoke/VarHandle" ∧ (parseMethodDescriptor yJ7_fill_53178.desc).map (fun d => d.parameters.length) = some 2 := by decide +kernel
set_option maxHeartbeats 4000000 in
set_option maxRecDepth 100000 in
theorem kc_J7_fill_53178 (l : Launch) (D : va_G) (q : Nat → ClassId) (vl u : Nat → Nat) (hU0 : tw_inj (cX vl) u) (K : Nat) (r0 : Nat) (x1 : Int32) (hr0 : tw_in (cX vl) r0 0) (z z1 : ow_MS) (hq : ce_J7_fill_53178 vl K r0 x1 z = some z1) : Met l yJ7_fill_53178 wc_J7_fill_53178 ({ frames := 0, cells := 0, slots := 0, locals := 0 } : Room) (va_Pc [.ref (u r0), .int x1] (cw_pre D q vl u z)) (va_Qv (fun (_ : Unit) => True) (fun _ t => va_P D vwCl (uw (cX vl) q u z1) t.heap) (tw_A (cX vl) u)) 0 0 (tw_A (cX vl) u) := by
  refine Met.ofW (cc := cJ7_fill_53178) (maxL := 4) (ret := none) (by decide) rfl ?_
  intro p e s m args below meth c s₁ B hml hv
  obtain ⟨rfl, hP, hK⟩ := hv
  have hx := B.exec
  have hb := B.bytes
  have hr := B.returns
  have hts := atoms_spec (ws := wc_J7_fill_53178) B.pre
  have hT : ∀ w ∈ wC, w.before ([.ref (u r0), .int x1] : List Value).toArray s = true := fun w h => hts w (List.mem_cons_of_mem _ h)
  have hown : s.vm.findClass RJ7 = some m.cls := findClass_of_methodNamed B.named
  have hlocks := B.notSynchronized
  have hU : uw_inj (cX vl) u (tw_A (cX vl) u) := ⟨hU0, fun h hh => ⟨h, hh, rfl⟩⟩
  have hM : uw_M D vwCl (cX vl) q (tw_A (cX vl) u) s.heap u z s.heap [] := ⟨hP, va_S.rf⟩
  have hl := lv_entry ([.ref (u r0), .int x1]) (n := 4) (Nat.le_of_ble_eq_true rfl)
  rw [lg_entry_eq]
  generalize (lg_sl ([.ref (u r0), .int x1]) ++ List.replicate (4 - (lg_sl ([.ref (u r0), .int x1])).length) Slot.unset).toArray = ls at hl ⊢
  have hl : lv_has ls 4 [(0, .ref (u r0)), (1, .int x1)] := hl
  refine ow_named (fun QQ hQQ => ?_)
  generalize ([.ref (u r0), .int x1] : List Value).toArray = args at hts hT hQQ ⊢
  have key : ∀ k : Nat, (∀ (x1 : Int32) (x2 : Int32) (x3 : Int32) (r0 : Nat) (z : ow_MS) (H : Heap) (locs : List Loc) (ls : Array Slot), tw_in (cX vl) r0 0 → uw_M D vwCl (cX vl) q (tw_A (cX vl) u) s.heap u z H locs → lv_has ls 4 [(0, .ref (u r0)), (1, .int x1)] → c_J7_fill_53178 vl K k 0 x1 x2 x3 r0 z = some z1 → W p l e ({ frames := 0, cells := 0, slots := 0, locals := 0 } : Room) s m args below meth c H locs 0 0 QQ (F0 m 0 ls [])) ∧ (∀ (x1 : Int32) (x2 : Int32) (x3 : Int32) (r0 : Nat) (z : ow_MS) (H : Heap) (locs : List Loc) (ls : Array Slot), tw_in (cX vl) r0 0 → uw_M D vwCl (cX vl) q (tw_A (cX vl) u) s.heap u z H locs → lv_has ls 4 [(0, .ref (u r0)), (1, .int x1), (2, .int x2), (3, .int x3)] → c_J7_fill_53178 vl K k 1 x1 x2 x3 r0 z = some z1 → W p l e ({ frames := 0, cells := 0, slots := 0, locals := 0 } : Room) s m args below meth c H locs 0 0 QQ (F0 m 5 ls [])) := by
    intro k
    induction k with
    | zero => exact ⟨fun _ _ _ _ _ _ _ _ _ _ _ hq => cw_no hq, fun _ _ _ _ _ _ _ _ _ _ _ hq => cw_no hq⟩
    | succ k ih =>
      obtain ⟨ih_0, ih_1⟩ := ih
      refine ⟨?_, ?_⟩
      · intro x1 x2 x3 r0 z H locs ls hr0 hM hl hq
        have hq : cm_J7_fill_53178_0 vl K (c_J7_fill_53178 vl K k) x1 x2 x3 r0 z = some z1 := hq
        unfold cm_J7_fill_53178_0 at hq
        refine lv_iconst (v := 0) hx hb dcJ7_fill_53178_0 (by decide) ?_
        refine lv_istore_n (lv' := [(2, .int 0), (0, .ref (u r0)), (1, .int x1)]) hx hb dcJ7_fill_53178_1 rfl hl (by decide) rfl (fun ls hl => ?_)
        refine lv_aload_n hx hb dcJ7_fill_53178_2 rfl (lv_at hl 1 rfl) ?_
        refine uw_alen cX_ok hx hb hK hM hr0 dcJ7_fill_53178_3 ?_
        refine lv_istore_n (lv' := [(3, .int (Int32.ofNat (uw_len (cX vl) z r0))), (2, .int 0), (0, .ref (u r0)), (1, .int x1)]) hx hb dcJ7_fill_53178_4 rfl hl (by decide) rfl (fun ls hl => ?_)
        exact ih_1 x1 0 (Int32.ofNat (uw_len (cX vl) z r0)) r0 z H locs ls hr0 hM (lv_sub hl [2, 3, 1, 0] rfl) hq
      · intro x1 x2 x3 r0 z H locs ls hr0 hM hl hq
        have hq : cm_J7_fill_53178_1 vl K (c_J7_fill_53178 vl K k) x1 x2 x3 r0 z = some z1 := hq
        unfold cm_J7_fill_53178_1 at hq
        refine lv_iload_n hx hb dcJ7_fill_53178_5 rfl (lv_at hl 2 rfl) ?_
        refine lv_iload_n hx hb dcJ7_fill_53178_6 rfl (lv_at hl 3 rfl) ?_
        refine lv_icmp_ge (tgt := 20) hx hb dcJ7_fill_53178_7 (by decide) (fun hc => ?_) (fun hc => ?_)
        · have hq := tw_it hq hc
          exact cw_vret hx hb hr hlocks hM hq hQQ dcJ7_fill_53178_20
        · have hq := tw_if hq hc
          refine lv_aload_n hx hb dcJ7_fill_53178_10 rfl (lv_at hl 0 rfl) ?_
          refine lv_iload_n hx hb dcJ7_fill_53178_11 rfl (lv_at hl 2 rfl) ?_
          refine lv_iload_n hx hb dcJ7_fill_53178_12 rfl (lv_at hl 1 rfl) ?_
          refine uw_iast cX_ok hU hx hb hK hM hr0 hq dcJ7_fill_53178_13 (fun z1 H locs hM hq => ?_)
          refine lv_iinc (v := (x2 + 1)) (lv' := [(2, .int (x2 + 1)), (0, .ref (u r0)), (1, .int x1), (3, .int x3)]) hx hb dcJ7_fill_53178_14 hl (k := 2) rfl rfl (by decide) rfl (fun ls hl => ?_)
          refine lv_goto (tgt := 5) hx hb dcJ7_fill_53178_17 (by decide) ?_
          exact ih_1 x1 (x2 + 1) x3 r0 z1 H locs ls hr0 hM (lv_sub hl [1, 2, 0, 3] rfl) hq
  exact (key K).1 x1 0 0 r0 z s.heap [] ls hr0 hM (lv_sub hl [0, 1] rfl) hq
theorem dcJ7_fill_d0a16_0 : decode cJ7_fill_d0a16 0 = .ok (.iconst 0, 1) := by decide +kernel
theorem dcJ7_fill_d0a16_1 : decode cJ7_fill_d0a16 1 = .ok (.istore_n 3, 1) := by decide +kernel
theorem dcJ7_fill_d0a16_2 : decode cJ7_fill_d0a16 2 = .ok (.aload_n 0, 1) := by decide +kernel
theorem dcJ7_fill_d0a16_3 : decode cJ7_fill_d0a16 3 = .ok (.arraylength, 1) := by decide +kernel
theorem dcJ7_fill_d0a16_4 : decode cJ7_fill_d0a16 4 = .ok (.istore 4, 2) := by decide +kernel
theorem dcJ7_fill_d0a16_6 : decode cJ7_fill_d0a16 6 = .ok (.iload_n 3, 1) := by decide +kernel
theorem dcJ7_fill_d0a16_7 : decode cJ7_fill_d0a16 7 = .ok (.iload 4, 2) := by decide +kernel
theorem dcJ7_fill_d0a16_9 : decode cJ7_fill_d0a16 9 = .ok (.if_icmp .ge 13, 3) := by decide +kernel
theorem dcJ7_fill_d0a16_12 : decode cJ7_fill_d0a16 12 = .ok (.aload_n 0, 1) := by decide +kernel
theorem dcJ7_fill_d0a16_13 : decode cJ7_fill_d0a16 13 = .ok (.iload_n 3, 1) := by decide +kernel
theorem dcJ7_fill_d0a16_14 : decode cJ7_fill_d0a16 14 = .ok (.lload_n 1, 1) := by decide +kernel
theorem dcJ7_fill_d0a16_15 : decode cJ7_fill_d0a16 15 = .ok (.lastore, 1) := by decide +kernel
theorem dcJ7_fill_d0a16_16 : decode cJ7_fill_d0a16 16 = .ok (.iinc 3 1, 3) := by decide +kernel
theorem dcJ7_fill_d0a16_19 : decode cJ7_fill_d0a16 19 = .ok (.goto (-13), 3) := by decide +kernel
theorem dcJ7_fill_d0a16_22 : decode cJ7_fill_d0a16 22 = .ok (.return_, 1) := by decide +kernel
def cm_J7_fill_d0a16_0 (vl : Nat → Nat) (K : Nat) (go : Nat → Int32 → Int32 → Int64 → Nat → ow_MS → Option ow_MS) (x3 : Int32) (x4 : Int32) (w1 : Int64) (r0 : Nat) (z : ow_MS) : Option ow_MS :=
 go 1 0 (Int32.ofNat (uw_len (cX vl) z r0)) w1 r0 z
def cm_J7_fill_d0a16_1 (vl : Nat → Nat) (K : Nat) (go : Nat → Int32 → Int32 → Int64 → Nat → ow_MS → Option ow_MS) (x3 : Int32) (x4 : Int32) (w1 : Int64) (r0 : Nat) (z : ow_MS) : Option ow_MS :=
 (if x4 ≤ x3 then some z
 else ctJ (cX vl) z r0 x3 w1 fun z1 => go 1 (x3 + 1) x4 w1 r0 z1)
def cb_J7_fill_d0a16 (vl : Nat → Nat) (K : Nat) (go : Nat → Int32 → Int32 → Int64 → Nat → ow_MS → Option ow_MS) (L : Nat) (x3 : Int32) (x4 : Int32) (w1 : Int64) (r0 : Nat) (z : ow_MS) : Option ow_MS := match L with
  | 0 => cm_J7_fill_d0a16_0 vl K go x3 x4 w1 r0 z
  | 1 => cm_J7_fill_d0a16_1 vl K go x3 x4 w1 r0 z
  | _ => none
def c_J7_fill_d0a16 (vl : Nat → Nat) (K : Nat) : Nat → Nat → Int32 → Int32 → Int64 → Nat → ow_MS → Option ow_MS
  | 0 => fun _ _ _ _ _ _ => none
  | k + 1 => cb_J7_fill_d0a16 vl K (c_J7_fill_d0a16 vl K k)
def ce_J7_fill_d0a16 (vl : Nat → Nat) (K : Nat) (r0 : Nat) (w1 : Int64) (z : ow_MS) : Option ow_MS := c_J7_fill_d0a16 vl K K 0 0 0 w1 r0 z
abbrev wc_J7_fill_d0a16 : List Cond := .code yJ7_fill_d0a16 cJ7_fill_d0a16 5 none :: wC
theorem cdd_J7_fill_d0a16 : yJ7_fill_d0a16.cls ≠ "java/lang/invoke/MethodHandle" ∧ yJ7_fill_d0a16.cls ≠ "java/lang/invoke/VarHandle" ∧ (parseMethodDescriptor yJ7_fill_d0a16.desc).map (fun d => d.parameters.length) = some 2 := by decide +kernel
set_option maxHeartbeats 4000000 in
set_option maxRecDepth 100000 in
theorem kc_J7_fill_d0a16 (l : Launch) (D : va_G) (q : Nat → ClassId) (vl u : Nat → Nat) (hU0 : tw_inj (cX vl) u) (K : Nat) (r0 : Nat) (w1 : Int64) (hr0 : tw_in (cX vl) r0 2) (z z1 : ow_MS) (hq : ce_J7_fill_d0a16 vl K r0 w1 z = some z1) : Met l yJ7_fill_d0a16 wc_J7_fill_d0a16 ({ frames := 0, cells := 0, slots := 0, locals := 0 } : Room) (va_Pc [.ref (u r0), .long w1] (cw_pre D q vl u z)) (va_Qv (fun (_ : Unit) => True) (fun _ t => va_P D vwCl (uw (cX vl) q u z1) t.heap) (tw_A (cX vl) u)) 0 0 (tw_A (cX vl) u) := by
  refine Met.ofW (cc := cJ7_fill_d0a16) (maxL := 5) (ret := none) (by decide) rfl ?_
  intro p e s m args below meth c s₁ B hml hv
  obtain ⟨rfl, hP, hK⟩ := hv
  have hx := B.exec
  have hb := B.bytes
  have hr := B.returns
  have hts := atoms_spec (ws := wc_J7_fill_d0a16) B.pre
  have hT : ∀ w ∈ wC, w.before ([.ref (u r0), .long w1] : List Value).toArray s = true := fun w h => hts w (List.mem_cons_of_mem _ h)
  have hown : s.vm.findClass RJ7 = some m.cls := findClass_of_methodNamed B.named
  have hlocks := B.notSynchronized
  have hU : uw_inj (cX vl) u (tw_A (cX vl) u) := ⟨hU0, fun h hh => ⟨h, hh, rfl⟩⟩
  have hM : uw_M D vwCl (cX vl) q (tw_A (cX vl) u) s.heap u z s.heap [] := ⟨hP, va_S.rf⟩
  have hl := lv_entry ([.ref (u r0), .long w1]) (n := 5) (Nat.le_of_ble_eq_true rfl)
  rw [lg_entry_eq]
  generalize (lg_sl ([.ref (u r0), .long w1]) ++ List.replicate (5 - (lg_sl ([.ref (u r0), .long w1])).length) Slot.unset).toArray = ls at hl ⊢
  have hl : lv_has ls 5 [(0, .ref (u r0)), (1, .long w1)] := hl
  refine ow_named (fun QQ hQQ => ?_)
  generalize ([.ref (u r0), .long w1] : List Value).toArray = args at hts hT hQQ ⊢
  have key : ∀ k : Nat, (∀ (x3 : Int32) (x4 : Int32) (w1 : Int64) (r0 : Nat) (z : ow_MS) (H : Heap) (locs : List Loc) (ls : Array Slot), tw_in (cX vl) r0 2 → uw_M D vwCl (cX vl) q (tw_A (cX vl) u) s.heap u z H locs → lv_has ls 5 [(0, .ref (u r0)), (1, .long w1)] → c_J7_fill_d0a16 vl K k 0 x3 x4 w1 r0 z = some z1 → W p l e ({ frames := 0, cells := 0, slots := 0, locals := 0 } : Room) s m args below meth c H locs 0 0 QQ (F0 m 0 ls [])) ∧ (∀ (x3 : Int32) (x4 : Int32) (w1 : Int64) (r0 : Nat) (z : ow_MS) (H : Heap) (locs : List Loc) (ls : Array Slot), tw_in (cX vl) r0 2 → uw_M D vwCl (cX vl) q (tw_A (cX vl) u) s.heap u z H locs → lv_has ls 5 [(0, .ref (u r0)), (1, .long w1), (3, .int x3), (4, .int x4)] → c_J7_fill_d0a16 vl K k 1 x3 x4 w1 r0 z = some z1 → W p l e ({ frames := 0, cells := 0, slots := 0, locals := 0 } : Room) s m args below meth c H locs 0 0 QQ (F0 m 6 ls [])) := by
    intro k
    induction k with
    | zero => exact ⟨fun _ _ _ _ _ _ _ _ _ _ _ hq => cw_no hq, fun _ _ _ _ _ _ _ _ _ _ _ hq => cw_no hq⟩
    | succ k ih =>
      obtain ⟨ih_0, ih_1⟩ := ih
      refine ⟨?_, ?_⟩
      · intro x3 x4 w1 r0 z H locs ls hr0 hM hl hq
        have hq : cm_J7_fill_d0a16_0 vl K (c_J7_fill_d0a16 vl K k) x3 x4 w1 r0 z = some z1 := hq
        unfold cm_J7_fill_d0a16_0 at hq
        refine lv_iconst (v := 0) hx hb dcJ7_fill_d0a16_0 (by decide) ?_
        refine lv_istore_n (lv' := [(3, .int 0), (0, .ref (u r0)), (1, .long w1)]) hx hb dcJ7_fill_d0a16_1 rfl hl (by decide) rfl (fun ls hl => ?_)
        refine lv_aload_n hx hb dcJ7_fill_d0a16_2 rfl (lv_at hl 1 rfl) ?_
        refine uw_alen2 cX_ok hx hb hK hM hr0 dcJ7_fill_d0a16_3 ?_
        refine lv_istore (lv' := [(4, .int (Int32.ofNat (uw_len (cX vl) z r0))), (3, .int 0), (0, .ref (u r0)), (1, .long w1)]) hx hb dcJ7_fill_d0a16_4 hl (by decide) rfl (fun ls hl => ?_)
        exact ih_1 0 (Int32.ofNat (uw_len (cX vl) z r0)) w1 r0 z H locs ls hr0 hM (lv_sub hl [2, 3, 1, 0] rfl) hq
      · intro x3 x4 w1 r0 z H locs ls hr0 hM hl hq
        have hq : cm_J7_fill_d0a16_1 vl K (c_J7_fill_d0a16 vl K k) x3 x4 w1 r0 z = some z1 := hq
        unfold cm_J7_fill_d0a16_1 at hq
        refine lv_iload_n hx hb dcJ7_fill_d0a16_6 rfl (lv_at hl 2 rfl) ?_
        refine lv_iload hx hb dcJ7_fill_d0a16_7 (lv_at hl 3 rfl) ?_
        refine lv_icmp_ge (tgt := 22) hx hb dcJ7_fill_d0a16_9 (by decide) (fun hc => ?_) (fun hc => ?_)
        · have hq := tw_it hq hc
          exact cw_vret hx hb hr hlocks hM hq hQQ dcJ7_fill_d0a16_22
        · have hq := tw_if hq hc
          refine lv_aload_n hx hb dcJ7_fill_d0a16_12 rfl (lv_at hl 0 rfl) ?_
          refine lv_iload_n hx hb dcJ7_fill_d0a16_13 rfl (lv_at hl 2 rfl) ?_
          refine lv_lload_n hx hb dcJ7_fill_d0a16_14 rfl (lv_at hl 1 rfl) ?_
          refine uw_last cX_ok hU hx hb hK hM hr0 hq dcJ7_fill_d0a16_15 (fun z1 H locs hM hq => ?_)
          refine lv_iinc (v := (x3 + 1)) (lv' := [(3, .int (x3 + 1)), (0, .ref (u r0)), (1, .long w1), (4, .int x4)]) hx hb dcJ7_fill_d0a16_16 hl (k := 2) rfl rfl (by decide) rfl (fun ls hl => ?_)
          refine lv_goto (tgt := 6) hx hb dcJ7_fill_d0a16_19 (by decide) ?_
          exact ih_1 (x3 + 1) x4 w1 r0 z1 H locs ls hr0 hM (lv_sub hl [1, 2, 0, 3] rfl) hq
  exact (key K).1 0 0 w1 r0 z s.heap [] ls hr0 hM (lv_sub hl [0, 1] rfl) hq
theorem dcJ7_fill_eb02e_0 : decode cJ7_fill_eb02e 0 = .ok (.aload_n 0, 1) := by decide +kernel
theorem dcJ7_fill_eb02e_1 : decode cJ7_fill_eb02e 1 = .ok (.arraylength, 1) := by decide +kernel
theorem dcJ7_fill_eb02e_2 : decode cJ7_fill_eb02e 2 = .ok (.iload_n 1, 1) := by decide +kernel
theorem dcJ7_fill_eb02e_3 : decode cJ7_fill_eb02e 3 = .ok (.iload_n 2, 1) := by decide +kernel
theorem dcJ7_fill_eb02e_4 : decode cJ7_fill_eb02e 4 = .ok (.invokestatic 13, 3) := by decide +kernel
theorem dcJ7_fill_eb02e_7 : decode cJ7_fill_eb02e 7 = .ok (.iload_n 1, 1) := by decide +kernel
theorem dcJ7_fill_eb02e_8 : decode cJ7_fill_eb02e 8 = .ok (.istore 4, 2) := by decide +kernel
theorem dcJ7_fill_eb02e_10 : decode cJ7_fill_eb02e 10 = .ok (.iload 4, 2) := by decide +kernel
theorem dcJ7_fill_eb02e_12 : decode cJ7_fill_eb02e 12 = .ok (.iload_n 2, 1) := by decide +kernel
theorem dcJ7_fill_eb02e_13 : decode cJ7_fill_eb02e 13 = .ok (.if_icmp .ge 14, 3) := by decide +kernel
theorem dcJ7_fill_eb02e_16 : decode cJ7_fill_eb02e 16 = .ok (.aload_n 0, 1) := by decide +kernel
theorem dcJ7_fill_eb02e_17 : decode cJ7_fill_eb02e 17 = .ok (.iload 4, 2) := by decide +kernel
theorem dcJ7_fill_eb02e_19 : decode cJ7_fill_eb02e 19 = .ok (.iload_n 3, 1) := by decide +kernel
theorem dcJ7_fill_eb02e_20 : decode cJ7_fill_eb02e 20 = .ok (.bastore, 1) := by decide +kernel
theorem dcJ7_fill_eb02e_21 : decode cJ7_fill_eb02e 21 = .ok (.iinc 4 1, 3) := by decide +kernel
theorem dcJ7_fill_eb02e_24 : decode cJ7_fill_eb02e 24 = .ok (.goto (-14), 3) := by decide +kernel
theorem dcJ7_fill_eb02e_27 : decode cJ7_fill_eb02e 27 = .ok (.return_, 1) := by decide +kernel
def cm_J7_fill_eb02e_0 (vl : Nat → Nat) (K : Nat) (go : Nat → Int32 → Int32 → Int32 → Int32 → Nat → ow_MS → Option ow_MS) (x1 : Int32) (x2 : Int32) (x3 : Int32) (x4 : Int32) (r0 : Nat) (z : ow_MS) : Option ow_MS :=
 cs0 (ce_J7_rangeCheck_23922 vl K (Int32.ofNat (uw_len (cX vl) z r0)) x1 x2 z) fun z1 => go 1 x1 x2 x3 x1 r0 z1
def cm_J7_fill_eb02e_1 (vl : Nat → Nat) (K : Nat) (go : Nat → Int32 → Int32 → Int32 → Int32 → Nat → ow_MS → Option ow_MS) (x1 : Int32) (x2 : Int32) (x3 : Int32) (x4 : Int32) (r0 : Nat) (z : ow_MS) : Option ow_MS :=
 (if x2 ≤ x4 then some z
 else ctB (cX vl) z r0 x4 x3 fun z2 => go 1 x1 x2 x3 (x4 + 1) r0 z2)
def cb_J7_fill_eb02e (vl : Nat → Nat) (K : Nat) (go : Nat → Int32 → Int32 → Int32 → Int32 → Nat → ow_MS → Option ow_MS) (L : Nat) (x1 : Int32) (x2 : Int32) (x3 : Int32) (x4 : Int32) (r0 : Nat) (z : ow_MS) : Option ow_MS := match L with
  | 0 => cm_J7_fill_eb02e_0 vl K go x1 x2 x3 x4 r0 z
  | 1 => cm_J7_fill_eb02e_1 vl K go x1 x2 x3 x4 r0 z
  | _ => none
def c_J7_fill_eb02e (vl : Nat → Nat) (K : Nat) : Nat → Nat → Int32 → Int32 → Int32 → Int32 → Nat → ow_MS → Option ow_MS
  | 0 => fun _ _ _ _ _ _ _ => none
  | k + 1 => cb_J7_fill_eb02e vl K (c_J7_fill_eb02e vl K k)
def ce_J7_fill_eb02e (vl : Nat → Nat) (K : Nat) (r0 : Nat) (x1 : Int32) (x2 : Int32) (x3 : Int32) (z : ow_MS) : Option ow_MS := c_J7_fill_eb02e vl K K 0 x1 x2 x3 0 r0 z
abbrev wc_J7_fill_eb02e : List Cond := .code yJ7_fill_eb02e cJ7_fill_eb02e 5 none :: wC
theorem cdd_J7_fill_eb02e : yJ7_fill_eb02e.cls ≠ "java/lang/invoke/MethodHandle" ∧ yJ7_fill_eb02e.cls ≠ "java/lang/invoke/VarHandle" ∧ (parseMethodDescriptor yJ7_fill_eb02e.desc).map (fun d => d.parameters.length) = some 4 := by decide +kernel
set_option maxHeartbeats 4000000 in
set_option maxRecDepth 100000 in
theorem kc_J7_fill_eb02e (l : Launch) (D : va_G) (q : Nat → ClassId) (vl u : Nat → Nat) (hU0 : tw_inj (cX vl) u) (K : Nat) (r0 : Nat) (x1 : Int32) (x2 : Int32) (x3 : Int32) (hr0 : tw_in (cX vl) r0 1) (z z1 : ow_MS) (hq : ce_J7_fill_eb02e vl K r0 x1 x2 x3 z = some z1) : Met l yJ7_fill_eb02e wc_J7_fill_eb02e ({ frames := 1, cells := 0, slots := 0, locals := 22 } : Room) (va_Pc [.ref (u r0), .int x1, .int x2, .int x3] (cw_pre D q vl u z)) (va_Qv (fun (_ : Unit) => True) (fun _ t => va_P D vwCl (uw (cX vl) q u z1) t.heap) (tw_A (cX vl) u)) 0 0 (tw_A (cX vl) u) := by
  refine Met.ofW (cc := cJ7_fill_eb02e) (maxL := 5) (ret := none) (by decide) rfl ?_
  intro p e s m args below meth c s₁ B hml hv
  obtain ⟨rfl, hP, hK⟩ := hv
  have hx := B.exec
  have hb := B.bytes
  have hr := B.returns
  have hts := atoms_spec (ws := wc_J7_fill_eb02e) B.pre
  have hT : ∀ w ∈ wC, w.before ([.ref (u r0), .int x1, .int x2, .int x3] : List Value).toArray s = true := fun w h => hts w (List.mem_cons_of_mem _ h)
  have hown : s.vm.findClass RJ7 = some m.cls := findClass_of_methodNamed B.named
  have hlocks := B.notSynchronized
  have hU : uw_inj (cX vl) u (tw_A (cX vl) u) := ⟨hU0, fun h hh => ⟨h, hh, rfl⟩⟩
  have hM : uw_M D vwCl (cX vl) q (tw_A (cX vl) u) s.heap u z s.heap [] := ⟨hP, va_S.rf⟩
  have hl := lv_entry ([.ref (u r0), .int x1, .int x2, .int x3]) (n := 5) (Nat.le_of_ble_eq_true rfl)
  rw [lg_entry_eq]
  generalize (lg_sl ([.ref (u r0), .int x1, .int x2, .int x3]) ++ List.replicate (5 - (lg_sl ([.ref (u r0), .int x1, .int x2, .int x3])).length) Slot.unset).toArray = ls at hl ⊢
  have hl : lv_has ls 5 [(0, .ref (u r0)), (1, .int x1), (2, .int x2), (3, .int x3)] := hl
  refine ow_named (fun QQ hQQ => ?_)
  generalize ([.ref (u r0), .int x1, .int x2, .int x3] : List Value).toArray = args at hts hT hQQ ⊢
  have key : ∀ k : Nat, (∀ (x1 : Int32) (x2 : Int32) (x3 : Int32) (x4 : Int32) (r0 : Nat) (z : ow_MS) (H : Heap) (locs : List Loc) (ls : Array Slot), tw_in (cX vl) r0 1 → uw_M D vwCl (cX vl) q (tw_A (cX vl) u) s.heap u z H locs → lv_has ls 5 [(0, .ref (u r0)), (1, .int x1), (2, .int x2), (3, .int x3)] → c_J7_fill_eb02e vl K k 0 x1 x2 x3 x4 r0 z = some z1 → W p l e ({ frames := 1, cells := 0, slots := 0, locals := 22 } : Room) s m args below meth c H locs 0 0 QQ (F0 m 0 ls [])) ∧ (∀ (x1 : Int32) (x2 : Int32) (x3 : Int32) (x4 : Int32) (r0 : Nat) (z : ow_MS) (H : Heap) (locs : List Loc) (ls : Array Slot), tw_in (cX vl) r0 1 → uw_M D vwCl (cX vl) q (tw_A (cX vl) u) s.heap u z H locs → lv_has ls 5 [(0, .ref (u r0)), (1, .int x1), (2, .int x2), (3, .int x3), (4, .int x4)] → c_J7_fill_eb02e vl K k 1 x1 x2 x3 x4 r0 z = some z1 → W p l e ({ frames := 1, cells := 0, slots := 0, locals := 22 } : Room) s m args below meth c H locs 0 0 QQ (F0 m 10 ls [])) := by
    intro k
    induction k with
    | zero => exact ⟨fun _ _ _ _ _ _ _ _ _ _ _ _ hq => cw_no hq, fun _ _ _ _ _ _ _ _ _ _ _ _ hq => cw_no hq⟩
    | succ k ih =>
      obtain ⟨ih_0, ih_1⟩ := ih
      refine ⟨?_, ?_⟩
      · intro x1 x2 x3 x4 r0 z H locs ls hr0 hM hl hq
        have hq : cm_J7_fill_eb02e_0 vl K (c_J7_fill_eb02e vl K k) x1 x2 x3 x4 r0 z = some z1 := hq
        unfold cm_J7_fill_eb02e_0 at hq
        refine lv_aload_n hx hb dcJ7_fill_eb02e_0 rfl (lv_at hl 0 rfl) ?_
        refine uw_alen1 cX_ok hx hb hK hM hr0 dcJ7_fill_eb02e_1 ?_
        refine lv_iload_n hx hb dcJ7_fill_eb02e_2 rfl (lv_at hl 1 rfl) ?_
        refine lv_iload_n hx hb dcJ7_fill_eb02e_3 rfl (lv_at hl 2 rfl) ?_
        obtain ⟨z1, hcq, hq⟩ := tw_cl0 hq
        refine uw_calv hU hM (va_runS (As := [.int (Int32.ofNat (uw_len (cX vl) z r0)), .int x1, .int x2]) (rest := []) ⟨hx, hb, hml, hown, hts⟩ (kc_J7_rangeCheck_23922 l D q vl u hU.1 K (Int32.ofNat (uw_len (cX vl) z r0)) x1 x2 z z1 hcq) (va_cwS 3 hts (tw_gS wC_good xq_64 xq_65 xq_9 xq_66) rfl rfl rfl cdd_J7_rangeCheck_23922 ⟨(Nat.le_of_ble_eq_true rfl), (Nat.le_of_ble_eq_true rfl)⟩) (cw_preS hK hM) rfl rfl hl.1 rfl (lv_room (Nat.le_of_ble_eq_true rfl)) dcJ7_fill_eb02e_4 ⟨(Nat.le_of_ble_eq_true rfl), (Nat.le_of_ble_eq_true rfl)⟩) (fun H locs hM => ?_)
        refine lv_iload_n hx hb dcJ7_fill_eb02e_7 rfl (lv_at hl 1 rfl) ?_
        refine lv_istore (lv' := [(4, .int x1), (0, .ref (u r0)), (1, .int x1), (2, .int x2), (3, .int x3)]) hx hb dcJ7_fill_eb02e_8 hl (by decide) rfl (fun ls hl => ?_)
        exact ih_1 x1 x2 x3 x1 r0 z1 H locs ls hr0 hM (lv_sub hl [1, 2, 3, 4, 0] rfl) hq
      · intro x1 x2 x3 x4 r0 z H locs ls hr0 hM hl hq
        have hq : cm_J7_fill_eb02e_1 vl K (c_J7_fill_eb02e vl K k) x1 x2 x3 x4 r0 z = some z1 := hq
        unfold cm_J7_fill_eb02e_1 at hq
        refine lv_iload hx hb dcJ7_fill_eb02e_10 (lv_at hl 4 rfl) ?_
        refine lv_iload_n hx hb dcJ7_fill_eb02e_12 rfl (lv_at hl 2 rfl) ?_
        refine lv_icmp_ge (tgt := 27) hx hb dcJ7_fill_eb02e_13 (by decide) (fun hc => ?_) (fun hc => ?_)
        · have hq := tw_it hq hc
          exact cw_vret hx hb hr hlocks hM hq hQQ dcJ7_fill_eb02e_27
        · have hq := tw_if hq hc
          refine lv_aload_n hx hb dcJ7_fill_eb02e_16 rfl (lv_at hl 0 rfl) ?_
          refine lv_iload hx hb dcJ7_fill_eb02e_17 (lv_at hl 4 rfl) ?_
          refine lv_iload_n hx hb dcJ7_fill_eb02e_19 rfl (lv_at hl 3 rfl) ?_
          refine uw_bast cX_ok hU hx hb hK hM hr0 hq dcJ7_fill_eb02e_20 (fun z2 H locs hM hq => ?_)
          refine lv_iinc (v := (x4 + 1)) (lv' := [(4, .int (x4 + 1)), (0, .ref (u r0)), (1, .int x1), (2, .int x2), (3, .int x3)]) hx hb dcJ7_fill_eb02e_21 hl (k := 4) rfl rfl (by decide) rfl (fun ls hl => ?_)
          refine lv_goto (tgt := 10) hx hb dcJ7_fill_eb02e_24 (by decide) ?_
          exact ih_1 x1 x2 x3 (x4 + 1) r0 z2 H locs ls hr0 hM (lv_sub hl [1, 2, 3, 4, 0] rfl) hq
  exact (key K).1 x1 x2 x3 0 r0 z s.heap [] ls hr0 hM (lv_sub hl [0, 1, 2, 3] rfl) hq
theorem dcX0_markArcs_0 : decode cX0_markArcs 0 = .ok (.iconst 2, 1) := dw_at cX0_markArcs_k0 (p := 0) rfl (by decide +kernel)
theorem dcX0_markArcs_1 : decode cX0_markArcs 1 = .ok (.aload_n 1, 1) := dw_at cX0_markArcs_k0 (p := 1) rfl (by decide +kernel)
theorem dcX0_markArcs_2 : decode cX0_markArcs 2 = .ok (.getfield 70, 3) := dw_at cX0_markArcs_k0 (p := 2) rfl (by decide +kernel)
theorem dcX0_markArcs_5 : decode cX0_markArcs 5 = .ok (.imul, 1) := dw_at cX0_markArcs_k0 (p := 5) rfl (by decide +kernel)
theorem dcX0_markArcs_6 : decode cX0_markArcs 6 = .ok (.istore_n 2, 1) := dw_at cX0_markArcs_k0 (p := 6) rfl (by decide +kernel)
theorem dcX0_markArcs_7 : decode cX0_markArcs 7 = .ok (.aload_n 0, 1) := dw_at cX0_markArcs_k0 (p := 7) rfl (by decide +kernel)
theorem dcX0_markArcs_8 : decode cX0_markArcs 8 = .ok (.getfield 9, 3) := dw_at cX0_markArcs_k0 (p := 8) rfl (by decide +kernel)
theorem dcX0_markArcs_11 : decode cX0_markArcs 11 = .ok (.iconst (-1), 1) := dw_at cX0_markArcs_k0 (p := 11) rfl (by decide +kernel)
theorem dcX0_markArcs_12 : decode cX0_markArcs 12 = .ok (.invokestatic 76, 3) := dw_at cX0_markArcs_k0 (p := 12) rfl (by decide +kernel)
theorem dcX0_markArcs_15 : decode cX0_markArcs 15 = .ok (.aload_n 0, 1) := dw_at cX0_markArcs_k0 (p := 15) rfl (by decide +kernel)
theorem dcX0_markArcs_16 : decode cX0_markArcs 16 = .ok (.iconst 0, 1) := dw_at cX0_markArcs_k0 (p := 16) rfl (by decide +kernel)
theorem dcX0_markArcs_17 : decode cX0_markArcs 17 = .ok (.putfield 82, 3) := dw_at cX0_markArcs_k0 (p := 17) rfl (by decide +kernel)
theorem dcX0_markArcs_20 : decode cX0_markArcs 20 = .ok (.iconst 1, 1) := dw_at cX0_markArcs_k0 (p := 20) rfl (by decide +kernel)
theorem dcX0_markArcs_21 : decode cX0_markArcs 21 = .ok (.istore_n 3, 1) := dw_at cX0_markArcs_k0 (p := 21) rfl (by decide +kernel)
theorem dcX0_markArcs_22 : decode cX0_markArcs 22 = .ok (.iload_n 3, 1) := dw_at cX0_markArcs_k0 (p := 22) rfl (by decide +kernel)
theorem dcX0_markArcs_23 : decode cX0_markArcs 23 = .ok (.ifCond .lt 110, 3) := dw_at cX0_markArcs_k0 (p := 23) rfl (by decide +kernel)
theorem dcX0_markArcs_26 : decode cX0_markArcs 26 = .ok (.iload_n 3, 1) := dw_at cX0_markArcs_k1 (p := 0) rfl (by decide +kernel)
theorem dcX0_markArcs_27 : decode cX0_markArcs 27 = .ok (.istore 4, 2) := dw_at cX0_markArcs_k1 (p := 1) rfl (by decide +kernel)
theorem dcX0_markArcs_29 : decode cX0_markArcs 29 = .ok (.iload 4, 2) := dw_at cX0_markArcs_k1 (p := 3) rfl (by decide +kernel)
theorem dcX0_markArcs_31 : decode cX0_markArcs 31 = .ok (.iload_n 2, 1) := dw_at cX0_markArcs_k1 (p := 5) rfl (by decide +kernel)
theorem dcX0_markArcs_32 : decode cX0_markArcs 32 = .ok (.if_icmp .ge 95, 3) := dw_at cX0_markArcs_k1 (p := 6) rfl (by decide +kernel)
theorem dcX0_markArcs_35 : decode cX0_markArcs 35 = .ok (.aload_n 0, 1) := dw_at cX0_markArcs_k1 (p := 9) rfl (by decide +kernel)
theorem dcX0_markArcs_36 : decode cX0_markArcs 36 = .ok (.getfield 9, 3) := dw_at cX0_markArcs_k1 (p := 10) rfl (by decide +kernel)
theorem dcX0_markArcs_39 : decode cX0_markArcs 39 = .ok (.iload 4, 2) := dw_at cX0_markArcs_k1 (p := 13) rfl (by decide +kernel)
theorem dcX0_markArcs_41 : decode cX0_markArcs 41 = .ok (.iaload, 1) := dw_at cX0_markArcs_k1 (p := 15) rfl (by decide +kernel)
theorem dcX0_markArcs_42 : decode cX0_markArcs 42 = .ok (.iconst (-1), 1) := dw_at cX0_markArcs_k1 (p := 16) rfl (by decide +kernel)
theorem dcX0_markArcs_43 : decode cX0_markArcs 43 = .ok (.if_icmp .eq 6, 3) := dw_at cX0_markArcs_k1 (p := 17) rfl (by decide +kernel)
theorem dcX0_markArcs_46 : decode cX0_markArcs 46 = .ok (.goto 75, 3) := dw_at cX0_markArcs_k1 (p := 20) rfl (by decide +kernel)
theorem dcX0_markArcs_49 : decode cX0_markArcs 49 = .ok (.iload 4, 2) := dw_at cX0_markArcs_k1 (p := 23) rfl (by decide +kernel)
theorem dcX0_markArcs_51 : decode cX0_markArcs 51 = .ok (.istore 5, 2) := dw_at cX0_markArcs_k2 (p := 0) rfl (by decide +kernel)
theorem dcX0_markArcs_53 : decode cX0_markArcs 53 = .ok (.iconst 0, 1) := dw_at cX0_markArcs_k2 (p := 2) rfl (by decide +kernel)
theorem dcX0_markArcs_54 : decode cX0_markArcs 54 = .ok (.istore 6, 2) := dw_at cX0_markArcs_k2 (p := 3) rfl (by decide +kernel)
theorem dcX0_markArcs_56 : decode cX0_markArcs 56 = .ok (.iload 6, 2) := dw_at cX0_markArcs_k2 (p := 5) rfl (by decide +kernel)
theorem dcX0_markArcs_58 : decode cX0_markArcs 58 = .ok (.iload_n 2, 1) := dw_at cX0_markArcs_k2 (p := 7) rfl (by decide +kernel)
theorem dcX0_markArcs_59 : decode cX0_markArcs 59 = .ok (.if_icmp .ge 52, 3) := dw_at cX0_markArcs_k2 (p := 8) rfl (by decide +kernel)
theorem dcX0_markArcs_62 : decode cX0_markArcs 62 = .ok (.iload 6, 2) := dw_at cX0_markArcs_k2 (p := 11) rfl (by decide +kernel)
theorem dcX0_markArcs_64 : decode cX0_markArcs 64 = .ok (.ifCond .eq 10, 3) := dw_at cX0_markArcs_k2 (p := 13) rfl (by decide +kernel)
theorem dcX0_markArcs_67 : decode cX0_markArcs 67 = .ok (.iload 5, 2) := dw_at cX0_markArcs_k2 (p := 16) rfl (by decide +kernel)
theorem dcX0_markArcs_69 : decode cX0_markArcs 69 = .ok (.iconst 1, 1) := dw_at cX0_markArcs_k2 (p := 18) rfl (by decide +kernel)
theorem dcX0_markArcs_70 : decode cX0_markArcs 70 = .ok (.iand, 1) := dw_at cX0_markArcs_k2 (p := 19) rfl (by decide +kernel)
theorem dcX0_markArcs_71 : decode cX0_markArcs 71 = .ok (.ifCond .ne 40, 3) := dw_at cX0_markArcs_k2 (p := 20) rfl (by decide +kernel)
theorem dcX0_markArcs_74 : decode cX0_markArcs 74 = .ok (.aload_n 0, 1) := dw_at cX0_markArcs_k2 (p := 23) rfl (by decide +kernel)
theorem dcX0_markArcs_75 : decode cX0_markArcs 75 = .ok (.getfield 9, 3) := dw_at cX0_markArcs_k3 (p := 0) rfl (by decide +kernel)
theorem dcX0_markArcs_78 : decode cX0_markArcs 78 = .ok (.iload 5, 2) := dw_at cX0_markArcs_k3 (p := 3) rfl (by decide +kernel)
theorem dcX0_markArcs_80 : decode cX0_markArcs 80 = .ok (.iaload, 1) := dw_at cX0_markArcs_k3 (p := 5) rfl (by decide +kernel)
theorem dcX0_markArcs_81 : decode cX0_markArcs 81 = .ok (.iconst (-1), 1) := dw_at cX0_markArcs_k3 (p := 6) rfl (by decide +kernel)
theorem dcX0_markArcs_82 : decode cX0_markArcs 82 = .ok (.if_icmp .ne 29, 3) := dw_at cX0_markArcs_k3 (p := 7) rfl (by decide +kernel)
theorem dcX0_markArcs_85 : decode cX0_markArcs 85 = .ok (.aload_n 0, 1) := dw_at cX0_markArcs_k3 (p := 10) rfl (by decide +kernel)
theorem dcX0_markArcs_86 : decode cX0_markArcs 86 = .ok (.getfield 9, 3) := dw_at cX0_markArcs_k3 (p := 11) rfl (by decide +kernel)
theorem dcX0_markArcs_89 : decode cX0_markArcs 89 = .ok (.iload 5, 2) := dw_at cX0_markArcs_k3 (p := 14) rfl (by decide +kernel)
theorem dcX0_markArcs_91 : decode cX0_markArcs 91 = .ok (.aload_n 0, 1) := dw_at cX0_markArcs_k3 (p := 16) rfl (by decide +kernel)
theorem dcX0_markArcs_92 : decode cX0_markArcs 92 = .ok (.getfield 82, 3) := dw_at cX0_markArcs_k3 (p := 17) rfl (by decide +kernel)
theorem dcX0_markArcs_95 : decode cX0_markArcs 95 = .ok (.iastore, 1) := dw_at cX0_markArcs_k3 (p := 20) rfl (by decide +kernel)
theorem dcX0_markArcs_96 : decode cX0_markArcs 96 = .ok (.aload_n 1, 1) := dw_at cX0_markArcs_k3 (p := 21) rfl (by decide +kernel)
theorem dcX0_markArcs_97 : decode cX0_markArcs 97 = .ok (.getfield 85, 3) := dw_at cX0_markArcs_k3 (p := 22) rfl (by decide +kernel)
theorem dcX0_markArcs_100 : decode cX0_markArcs 100 = .ok (.iload 5, 2) := dw_at cX0_markArcs_k4 (p := 0) rfl (by decide +kernel)
theorem dcX0_markArcs_102 : decode cX0_markArcs 102 = .ok (.iaload, 1) := dw_at cX0_markArcs_k4 (p := 2) rfl (by decide +kernel)
theorem dcX0_markArcs_103 : decode cX0_markArcs 103 = .ok (.istore 5, 2) := dw_at cX0_markArcs_k4 (p := 3) rfl (by decide +kernel)
theorem dcX0_markArcs_105 : decode cX0_markArcs 105 = .ok (.iinc 6 1, 3) := dw_at cX0_markArcs_k4 (p := 5) rfl (by decide +kernel)
theorem dcX0_markArcs_108 : decode cX0_markArcs 108 = .ok (.goto (-52), 3) := dw_at cX0_markArcs_k4 (p := 8) rfl (by decide +kernel)
theorem dcX0_markArcs_111 : decode cX0_markArcs 111 = .ok (.aload_n 0, 1) := dw_at cX0_markArcs_k4 (p := 11) rfl (by decide +kernel)
theorem dcX0_markArcs_112 : decode cX0_markArcs 112 = .ok (.dup, 1) := dw_at cX0_markArcs_k4 (p := 12) rfl (by decide +kernel)
theorem dcX0_markArcs_113 : decode cX0_markArcs 113 = .ok (.getfield 82, 3) := dw_at cX0_markArcs_k4 (p := 13) rfl (by decide +kernel)
theorem dcX0_markArcs_116 : decode cX0_markArcs 116 = .ok (.iconst 1, 1) := dw_at cX0_markArcs_k4 (p := 16) rfl (by decide +kernel)
theorem dcX0_markArcs_117 : decode cX0_markArcs 117 = .ok (.iadd, 1) := dw_at cX0_markArcs_k4 (p := 17) rfl (by decide +kernel)
theorem dcX0_markArcs_118 : decode cX0_markArcs 118 = .ok (.putfield 82, 3) := dw_at cX0_markArcs_k4 (p := 18) rfl (by decide +kernel)
theorem dcX0_markArcs_121 : decode cX0_markArcs 121 = .ok (.iinc 4 2, 3) := dw_at cX0_markArcs_k4 (p := 21) rfl (by decide +kernel)
theorem dcX0_markArcs_124 : decode cX0_markArcs 124 = .ok (.goto (-95), 3) := dw_at cX0_markArcs_k5 (p := 0) rfl (by decide +kernel)
theorem dcX0_markArcs_127 : decode cX0_markArcs 127 = .ok (.iinc 3 (-1), 3) := dw_at cX0_markArcs_k5 (p := 3) rfl (by decide +kernel)
theorem dcX0_markArcs_130 : decode cX0_markArcs 130 = .ok (.goto (-108), 3) := dw_at cX0_markArcs_k5 (p := 6) rfl (by decide +kernel)
theorem dcX0_markArcs_133 : decode cX0_markArcs 133 = .ok (.aload_n 0, 1) := dw_at cX0_markArcs_k5 (p := 9) rfl (by decide +kernel)
theorem dcX0_markArcs_134 : decode cX0_markArcs 134 = .ok (.dup, 1) := dw_at cX0_markArcs_k5 (p := 10) rfl (by decide +kernel)
theorem dcX0_markArcs_135 : decode cX0_markArcs 135 = .ok (.getfield 82, 3) := dw_at cX0_markArcs_k5 (p := 11) rfl (by decide +kernel)
theorem dcX0_markArcs_138 : decode cX0_markArcs 138 = .ok (.aload_n 1, 1) := dw_at cX0_markArcs_k5 (p := 14) rfl (by decide +kernel)
theorem dcX0_markArcs_139 : decode cX0_markArcs 139 = .ok (.getfield 88, 3) := dw_at cX0_markArcs_k5 (p := 15) rfl (by decide +kernel)
theorem dcX0_markArcs_142 : decode cX0_markArcs 142 = .ok (.iadd, 1) := dw_at cX0_markArcs_k5 (p := 18) rfl (by decide +kernel)
theorem dcX0_markArcs_143 : decode cX0_markArcs 143 = .ok (.putfield 82, 3) := dw_at cX0_markArcs_k5 (p := 19) rfl (by decide +kernel)
theorem dcX0_markArcs_146 : decode cX0_markArcs 146 = .ok (.return_, 1) := dw_at cX0_markArcs_k5 (p := 22) rfl (by decide +kernel)
def cm_X0_markArcs_0 (vl : Nat → Nat) (K : Nat) (go : Nat → Int32 → Int32 → Int32 → Int32 → Int32 → Nat → Nat → ow_MS → Option ow_MS) (x2 : Int32) (x3 : Int32) (x4 : Int32) (x5 : Int32) (x6 : Int32) (r0 : Nat) (r1 : Nat) (z : ow_MS) : Option ow_MS :=
 rdF z (r1 + 8) fun v1 => cs0 (ce_J7_fill_53178 vl K (r0 + 1) (-1) z) fun z2 => wrF z2 (r0 + 2) 0 fun z3 => go 1 (2 * v1) 1 0 0 0 r0 r1 z3
def cm_X0_markArcs_1 (vl : Nat → Nat) (K : Nat) (go : Nat → Int32 → Int32 → Int32 → Int32 → Int32 → Nat → Nat → ow_MS → Option ow_MS) (x2 : Int32) (x3 : Int32) (x4 : Int32) (x5 : Int32) (x6 : Int32) (r0 : Nat) (r1 : Nat) (z : ow_MS) : Option ow_MS :=
 (if x3 < 0 then rdF z (r0 + 2) fun v4 => rdF z (r1 + 9) fun v5 => wrF z (r0 + 2) (v4 + v5) fun z6 => some z6
 else go 2 x2 x3 x3 0 0 r0 r1 z)
def cm_X0_markArcs_2 (vl : Nat → Nat) (K : Nat) (go : Nat → Int32 → Int32 → Int32 → Int32 → Int32 → Nat → Nat → ow_MS → Option ow_MS) (x2 : Int32) (x3 : Int32) (x4 : Int32) (x5 : Int32) (x6 : Int32) (r0 : Nat) (r1 : Nat) (z : ow_MS) : Option ow_MS :=
 (if x2 ≤ x4 then go 1 x2 (x3 + (-1)) 0 0 0 r0 r1 z
 else crI (cX vl) z (r0 + 1) x4 fun v7 => (if v7 = (-1) then go 3 x2 x3 x4 x4 0 r0 r1 z
 else go 6 x2 x3 x4 0 0 r0 r1 z))
def cm_X0_markArcs_3 (vl : Nat → Nat) (K : Nat) (go : Nat → Int32 → Int32 → Int32 → Int32 → Int32 → Nat → Nat → ow_MS → Option ow_MS) (x2 : Int32) (x3 : Int32) (x4 : Int32) (x5 : Int32) (x6 : Int32) (r0 : Nat) (r1 : Nat) (z : ow_MS) : Option ow_MS :=
 (if x2 ≤ x6 then go 5 x2 x3 x4 x5 x6 r0 r1 z
 else (if x6 = 0 then go 4 x2 x3 x4 x5 x6 r0 r1 z
 else (if (x5 &&& 1) = 0 then go 4 x2 x3 x4 x5 x6 r0 r1 z
 else go 5 x2 x3 x4 x5 x6 r0 r1 z)))
def cm_X0_markArcs_4 (vl : Nat → Nat) (K : Nat) (go : Nat → Int32 → Int32 → Int32 → Int32 → Int32 → Nat → Nat → ow_MS → Option ow_MS) (x2 : Int32) (x3 : Int32) (x4 : Int32) (x5 : Int32) (x6 : Int32) (r0 : Nat) (r1 : Nat) (z : ow_MS) : Option ow_MS :=
 crI (cX vl) z (r0 + 1) x5 fun v8 => (if v8 = (-1) then rdF z (r0 + 2) fun v9 => ctI (cX vl) z (r0 + 1) x5 v9 fun z10 => crI (cX vl) z10 (r1 + 1) x5 fun v11 => go 3 x2 x3 x4 v11 (x6 + 1) r0 r1 z10
 else go 5 x2 x3 x4 x5 x6 r0 r1 z)
def cm_X0_markArcs_5 (vl : Nat → Nat) (K : Nat) (go : Nat → Int32 → Int32 → Int32 → Int32 → Int32 → Nat → Nat → ow_MS → Option ow_MS) (x2 : Int32) (x3 : Int32) (x4 : Int32) (x5 : Int32) (x6 : Int32) (r0 : Nat) (r1 : Nat) (z : ow_MS) : Option ow_MS :=
 rdF z (r0 + 2) fun v12 => wrF z (r0 + 2) (v12 + 1) fun z13 => go 6 x2 x3 x4 0 0 r0 r1 z13
def cm_X0_markArcs_6 (vl : Nat → Nat) (K : Nat) (go : Nat → Int32 → Int32 → Int32 → Int32 → Int32 → Nat → Nat → ow_MS → Option ow_MS) (x2 : Int32) (x3 : Int32) (x4 : Int32) (x5 : Int32) (x6 : Int32) (r0 : Nat) (r1 : Nat) (z : ow_MS) : Option ow_MS :=
 go 2 x2 x3 (x4 + 2) 0 0 r0 r1 z
def cb_X0_markArcs (vl : Nat → Nat) (K : Nat) (go : Nat → Int32 → Int32 → Int32 → Int32 → Int32 → Nat → Nat → ow_MS → Option ow_MS) (L : Nat) (x2 : Int32) (x3 : Int32) (x4 : Int32) (x5 : Int32) (x6 : Int32) (r0 : Nat) (r1 : Nat) (z : ow_MS) : Option ow_MS := match L with
  | 0 => cm_X0_markArcs_0 vl K go x2 x3 x4 x5 x6 r0 r1 z
  | 1 => cm_X0_markArcs_1 vl K go x2 x3 x4 x5 x6 r0 r1 z
  | 2 => cm_X0_markArcs_2 vl K go x2 x3 x4 x5 x6 r0 r1 z
  | 3 => cm_X0_markArcs_3 vl K go x2 x3 x4 x5 x6 r0 r1 z
  | 4 => cm_X0_markArcs_4 vl K go x2 x3 x4 x5 x6 r0 r1 z
  | 5 => cm_X0_markArcs_5 vl K go x2 x3 x4 x5 x6 r0 r1 z
  | 6 => cm_X0_markArcs_6 vl K go x2 x3 x4 x5 x6 r0 r1 z
  | _ => none
def c_X0_markArcs (vl : Nat → Nat) (K : Nat) : Nat → Nat → Int32 → Int32 → Int32 → Int32 → Int32 → Nat → Nat → ow_MS → Option ow_MS
  | 0 => fun _ _ _ _ _ _ _ _ _ => none
  | k + 1 => cb_X0_markArcs vl K (c_X0_markArcs vl K k)
def ce_X0_markArcs (vl : Nat → Nat) (K : Nat) (r0 : Nat) (r1 : Nat) (z : ow_MS) : Option ow_MS := c_X0_markArcs vl K K 0 0 0 0 0 0 r0 r1 z
abbrev wc_X0_markArcs : List Cond := .code yX0_markArcs cX0_markArcs 7 none :: wC
theorem cdd_X0_markArcs : yX0_markArcs.cls = RX0 ∧ yX0_markArcs.cls ≠ "java/lang/invoke/MethodHandle" ∧ yX0_markArcs.cls ≠ "java/lang/invoke/VarHandle" ∧ (parseMethodDescriptor yX0_markArcs.desc).map (fun d => d.parameters.length) = some 1 := by decide +kernel
set_option maxHeartbeats 4000000 in
set_option maxRecDepth 100000 in
theorem kc_X0_markArcs (l : Launch) (D : va_G) (q : Nat → ClassId) (vl u : Nat → Nat) (hU0 : tw_inj (cX vl) u) (K : Nat) (r0 : Nat) (r1 : Nat) (hr0 : cw_X0 r0) (hr1 : cw_X7 r1) (z z1 : ow_MS) (hq : ce_X0_markArcs vl K r0 r1 z = some z1) : Met l yX0_markArcs wc_X0_markArcs ({ frames := 1, cells := 0, slots := 0, locals := 23 } : Room) (va_Pc [.ref (u r0), .ref (u r1)] (cw_pre D q vl u z)) (va_Qv (fun (_ : Unit) => True) (fun _ t => va_P D vwCl (uw (cX vl) q u z1) t.heap) (tw_A (cX vl) u)) 0 0 (tw_A (cX vl) u) := by
  refine Met.ofW (cc := cX0_markArcs) (maxL := 7) (ret := none) (by decide) rfl ?_
  intro p e s m args below meth c s₁ B hml hv
  obtain ⟨rfl, hP, hK⟩ := hv
  have hx := B.exec
  have hb := B.bytes
  have hr := B.returns
  have hts := atoms_spec (ws := wc_X0_markArcs) B.pre
  have hT : ∀ w ∈ wC, w.before ([.ref (u r0), .ref (u r1)] : List Value).toArray s = true := fun w h => hts w (List.mem_cons_of_mem _ h)
  have hown : s.vm.findClass RX0 = some m.cls := findClass_of_methodNamed B.named
  have hlocks := B.notSynchronized
  have hU : uw_inj (cX vl) u (tw_A (cX vl) u) := ⟨hU0, fun h hh => ⟨h, hh, rfl⟩⟩
  have hM : uw_M D vwCl (cX vl) q (tw_A (cX vl) u) s.heap u z s.heap [] := ⟨hP, va_S.rf⟩
  have hl := lv_entry ([.ref (u r0), .ref (u r1)]) (n := 7) (Nat.le_of_ble_eq_true rfl)
  rw [lg_entry_eq]
  generalize (lg_sl ([.ref (u r0), .ref (u r1)]) ++ List.replicate (7 - (lg_sl ([.ref (u r0), .ref (u r1)])).length) Slot.unset).toArray = ls at hl ⊢
  have hl : lv_has ls 7 [(0, .ref (u r0)), (1, .ref (u r1))] := hl
  refine ow_named (fun QQ hQQ => ?_)
  generalize ([.ref (u r0), .ref (u r1)] : List Value).toArray = args at hts hT hQQ ⊢
  have key : ∀ k : Nat, (∀ (x2 : Int32) (x3 : Int32) (x4 : Int32) (x5 : Int32) (x6 : Int32) (r0 : Nat) (r1 : Nat) (z : ow_MS) (H : Heap) (locs : List Loc) (ls : Array Slot), cw_X0 r0 → cw_X7 r1 → uw_M D vwCl (cX vl) q (tw_A (cX vl) u) s.heap u z H locs → lv_has ls 7 [(0, .ref (u r0)), (1, .ref (u r1))] → c_X0_markArcs vl K k 0 x2 x3 x4 x5 x6 r0 r1 z = some z1 → W p l e ({ frames := 1, cells := 0, slots := 0, locals := 23 } : Room) s m args below meth c H locs 0 0 QQ (F0 m 0 ls [])) ∧ (∀ (x2 : Int32) (x3 : Int32) (x4 : Int32) (x5 : Int32) (x6 : Int32) (r0 : Nat) (r1 : Nat) (z : ow_MS) (H : Heap) (locs : List Loc) (ls : Array Slot), cw_X0 r0 → cw_X7 r1 → uw_M D vwCl (cX vl) q (tw_A (cX vl) u) s.heap u z H locs → lv_has ls 7 [(0, .ref (u r0)), (1, .ref (u r1)), (2, .int x2), (3, .int x3)] → c_X0_markArcs vl K k 1 x2 x3 x4 x5 x6 r0 r1 z = some z1 → W p l e ({ frames := 1, cells := 0, slots := 0, locals := 23 } : Room) s m args below meth c H locs 0 0 QQ (F0 m 22 ls [])) ∧ (∀ (x2 : Int32) (x3 : Int32) (x4 : Int32) (x5 : Int32) (x6 : Int32) (r0 : Nat) (r1 : Nat) (z : ow_MS) (H : Heap) (locs : List Loc) (ls : Array Slot), cw_X0 r0 → cw_X7 r1 → uw_M D vwCl (cX vl) q (tw_A (cX vl) u) s.heap u z H locs → lv_has ls 7 [(0, .ref (u r0)), (1, .ref (u r1)), (2, .int x2), (3, .int x3), (4, .int x4)] → c_X0_markArcs vl K k 2 x2 x3 x4 x5 x6 r0 r1 z = some z1 → W p l e ({ frames := 1, cells := 0, slots := 0, locals := 23 } : Room) s m args below meth c H locs 0 0 QQ (F0 m 29 ls [])) ∧ (∀ (x2 : Int32) (x3 : Int32) (x4 : Int32) (x5 : Int32) (x6 : Int32) (r0 : Nat) (r1 : Nat) (z : ow_MS) (H : Heap) (locs : List Loc) (ls : Array Slot), cw_X0 r0 → cw_X7 r1 → uw_M D vwCl (cX vl) q (tw_A (cX vl) u) s.heap u z H locs → lv_has ls 7 [(0, .ref (u r0)), (1, .ref (u r1)), (2, .int x2), (3, .int x3), (4, .int x4), (5, .int x5), (6, .int x6)] → c_X0_markArcs vl K k 3 x2 x3 x4 x5 x6 r0 r1 z = some z1 → W p l e ({ frames := 1, cells := 0, slots := 0, locals := 23 } : Room) s m args below meth c H locs 0 0 QQ (F0 m 56 ls [])) ∧ (∀ (x2 : Int32) (x3 : Int32) (x4 : Int32) (x5 : Int32) (x6 : Int32) (r0 : Nat) (r1 : Nat) (z : ow_MS) (H : Heap) (locs : List Loc) (ls : Array Slot), cw_X0 r0 → cw_X7 r1 → uw_M D vwCl (cX vl) q (tw_A (cX vl) u) s.heap u z H locs → lv_has ls 7 [(0, .ref (u r0)), (1, .ref (u r1)), (2, .int x2), (3, .int x3), (4, .int x4), (5, .int x5), (6, .int x6)] → c_X0_markArcs vl K k 4 x2 x3 x4 x5 x6 r0 r1 z = some z1 → W p l e ({ frames := 1, cells := 0, slots := 0, locals := 23 } : Room) s m args below meth c H locs 0 0 QQ (F0 m 74 ls [])) ∧ (∀ (x2 : Int32) (x3 : Int32) (x4 : Int32) (x5 : Int32) (x6 : Int32) (r0 : Nat) (r1 : Nat) (z : ow_MS) (H : Heap) (locs : List Loc) (ls : Array Slot), cw_X0 r0 → cw_X7 r1 → uw_M D vwCl (cX vl) q (tw_A (cX vl) u) s.heap u z H locs → lv_has ls 7 [(0, .ref (u r0)), (1, .ref (u r1)), (2, .int x2), (3, .int x3), (4, .int x4), (5, .int x5), (6, .int x6)] → c_X0_markArcs vl K k 5 x2 x3 x4 x5 x6 r0 r1 z = some z1 → W p l e ({ frames := 1, cells := 0, slots := 0, locals := 23 } : Room) s m args below meth c H locs 0 0 QQ (F0 m 111 ls [])) ∧ (∀ (x2 : Int32) (x3 : Int32) (x4 : Int32) (x5 : Int32) (x6 : Int32) (r0 : Nat) (r1 : Nat) (z : ow_MS) (H : Heap) (locs : List Loc) (ls : Array Slot), cw_X0 r0 → cw_X7 r1 → uw_M D vwCl (cX vl) q (tw_A (cX vl) u) s.heap u z H locs → lv_has ls 7 [(0, .ref (u r0)), (1, .ref (u r1)), (2, .int x2), (3, .int x3), (4, .int x4)] → c_X0_markArcs vl K k 6 x2 x3 x4 x5 x6 r0 r1 z = some z1 → W p l e ({ frames := 1, cells := 0, slots := 0, locals := 23 } : Room) s m args below meth c H locs 0 0 QQ (F0 m 121 ls [])) := by
    intro k
    induction k with
    | zero => exact ⟨fun _ _ _ _ _ _ _ _ _ _ _ _ _ _ _ hq => cw_no hq, fun _ _ _ _ _ _ _ _ _ _ _ _ _ _ _ hq => cw_no hq, fun _ _ _ _ _ _ _ _ _ _ _ _ _ _ _ hq => cw_no hq, fun _ _ _ _ _ _ _ _ _ _ _ _ _ _ _ hq => cw_no hq, fun _ _ _ _ _ _ _ _ _ _ _ _ _ _ _ hq => cw_no hq, fun _ _ _ _ _ _ _ _ _ _ _ _ _ _ _ hq => cw_no hq, fun _ _ _ _ _ _ _ _ _ _ _ _ _ _ _ hq => cw_no hq⟩
    | succ k ih =>
      obtain ⟨ih_0, ih_1, ih_2, ih_3, ih_4, ih_5, ih_6⟩ := ih
      refine ⟨?_, ?_, ?_, ?_, ?_, ?_, ?_⟩
      · intro x2 x3 x4 x5 x6 r0 r1 z H locs ls hr0 hr1 hM hl hq
        have hq : cm_X0_markArcs_0 vl K (c_X0_markArcs vl K k) x2 x3 x4 x5 x6 r0 r1 z = some z1 := hq
        unfold cm_X0_markArcs_0 at hq
        refine lv_iconst (v := 2) hx hb dcX0_markArcs_0 (by decide) ?_
        refine lv_aload_n hx hb dcX0_markArcs_1 rfl (lv_at hl 1 rfl) ?_
        refine vgX0_70 hx hb hT hown hK hM hr1 hq dcX0_markArcs_2 (fun v1 hq => ?_)
        refine lv_imul hx hb dcX0_markArcs_5 ?_
        refine lv_istore_n (lv' := [(2, .int (2 * v1)), (0, .ref (u r0)), (1, .ref (u r1))]) hx hb dcX0_markArcs_6 rfl hl (by decide) rfl (fun ls hl => ?_)
        refine lv_aload_n hx hb dcX0_markArcs_7 rfl (lv_at hl 1 rfl) ?_
        refine vgX0_9 hx hb hT hown hK hM hr0 dcX0_markArcs_8 ?_
        refine lv_iconst (v := (-1)) hx hb dcX0_markArcs_11 (by decide) ?_
        obtain ⟨z2, hcq, hq⟩ := tw_cl0 hq
        refine uw_calv hU hM (va_runS (As := [.ref (u (r0 + 1)), .int (-1)]) (rest := []) ⟨hx, hb, hml, hown, hts⟩ (kc_J7_fill_53178 l D q vl u hU.1 K (r0 + 1) (-1) (cr_X0_0 hr0) z z2 hcq) (va_cwS 2 hts (tw_gS wC_good xq_7 xq_8 xq_9 xq_10) rfl rfl rfl cdd_J7_fill_53178 ⟨(Nat.le_of_ble_eq_true rfl), (Nat.le_of_ble_eq_true rfl)⟩) (cw_preS hK hM) rfl rfl hl.1 rfl (lv_room (Nat.le_of_ble_eq_true rfl)) dcX0_markArcs_12 ⟨(Nat.le_of_ble_eq_true rfl), (Nat.le_of_ble_eq_true rfl)⟩) (fun H locs hM => ?_)
        refine lv_aload_n hx hb dcX0_markArcs_15 rfl (lv_at hl 1 rfl) ?_
        refine lv_iconst (v := 0) hx hb dcX0_markArcs_16 (by decide) ?_
        refine vpX0_82 hx hb hT hown hK hM hU hr0 hq dcX0_markArcs_17 (fun z3 H locs hM hq => ?_)
        refine lv_iconst (v := 1) hx hb dcX0_markArcs_20 (by decide) ?_
        refine lv_istore_n (lv' := [(3, .int 1), (2, .int (2 * v1)), (0, .ref (u r0)), (1, .ref (u r1))]) hx hb dcX0_markArcs_21 rfl hl (by decide) rfl (fun ls hl => ?_)
        exact ih_1 (2 * v1) 1 0 0 0 r0 r1 z3 H locs ls hr0 hr1 hM (lv_sub hl [2, 3, 1, 0] rfl) hq
      · intro x2 x3 x4 x5 x6 r0 r1 z H locs ls hr0 hr1 hM hl hq
        have hq : cm_X0_markArcs_1 vl K (c_X0_markArcs vl K k) x2 x3 x4 x5 x6 r0 r1 z = some z1 := hq
        unfold cm_X0_markArcs_1 at hq
        refine lv_iload_n hx hb dcX0_markArcs_22 rfl (lv_at hl 3 rfl) ?_
        refine lv_if_lt (tgt := 133) hx hb dcX0_markArcs_23 (by decide) (fun hc => ?_) (fun hc => ?_)
        · have hq := tw_it hq hc
          refine lv_aload_n hx hb dcX0_markArcs_133 rfl (lv_at hl 0 rfl) ?_
          refine lv_dup hx hb dcX0_markArcs_134 rfl ?_
          refine vgX0_82 hx hb hT hown hK hM hr0 hq dcX0_markArcs_135 (fun v4 hq => ?_)
          refine lv_aload_n hx hb dcX0_markArcs_138 rfl (lv_at hl 1 rfl) ?_
          refine vgX0_88 hx hb hT hown hK hM hr1 hq dcX0_markArcs_139 (fun v5 hq => ?_)
          refine lv_iadd hx hb dcX0_markArcs_142 ?_
          refine vpX0_82 hx hb hT hown hK hM hU hr0 hq dcX0_markArcs_143 (fun z6 H locs hM hq => ?_)
          exact cw_vret hx hb hr hlocks hM hq hQQ dcX0_markArcs_146
        · have hq := tw_if hq hc
          refine lv_iload_n hx hb dcX0_markArcs_26 rfl (lv_at hl 3 rfl) ?_
          refine lv_istore (lv' := [(4, .int x3), (0, .ref (u r0)), (1, .ref (u r1)), (2, .int x2), (3, .int x3)]) hx hb dcX0_markArcs_27 hl (by decide) rfl (fun ls hl => ?_)
          exact ih_2 x2 x3 x3 0 0 r0 r1 z H locs ls hr0 hr1 hM (lv_sub hl [1, 2, 3, 4, 0] rfl) hq
      · intro x2 x3 x4 x5 x6 r0 r1 z H locs ls hr0 hr1 hM hl hq
        have hq : cm_X0_markArcs_2 vl K (c_X0_markArcs vl K k) x2 x3 x4 x5 x6 r0 r1 z = some z1 := hq
        unfold cm_X0_markArcs_2 at hq
        refine lv_iload hx hb dcX0_markArcs_29 (lv_at hl 4 rfl) ?_
        refine lv_iload_n hx hb dcX0_markArcs_31 rfl (lv_at hl 2 rfl) ?_
        refine lv_icmp_ge (tgt := 127) hx hb dcX0_markArcs_32 (by decide) (fun hc => ?_) (fun hc => ?_)
        · have hq := tw_it hq hc
          refine lv_iinc (v := (x3 + (-1))) (lv' := [(3, .int (x3 + (-1))), (0, .ref (u r0)), (1, .ref (u r1)), (2, .int x2), (4, .int x4)]) hx hb dcX0_markArcs_127 hl (k := 3) rfl rfl (by decide) rfl (fun ls hl => ?_)
          refine lv_goto (tgt := 22) hx hb dcX0_markArcs_130 (by decide) ?_
          exact ih_1 x2 (x3 + (-1)) 0 0 0 r0 r1 z H locs ls hr0 hr1 hM (lv_sub hl [1, 2, 3, 0] rfl) hq
        · have hq := tw_if hq hc
          refine lv_aload_n hx hb dcX0_markArcs_35 rfl (lv_at hl 0 rfl) ?_
          refine vgX0_9 hx hb hT hown hK hM hr0 dcX0_markArcs_36 ?_
          refine lv_iload hx hb dcX0_markArcs_39 (lv_at hl 4 rfl) ?_
          refine uw_iald cX_ok hx hb hK hM (cr_X0_0 hr0) hq dcX0_markArcs_41 (fun v7 hq => ?_)
          refine lv_iconst (v := (-1)) hx hb dcX0_markArcs_42 (by decide) ?_
          refine lv_icmp_eq (tgt := 49) hx hb dcX0_markArcs_43 (by decide) (fun hc => ?_) (fun hc => ?_)
          · have hq := tw_it hq hc
            refine lv_iload hx hb dcX0_markArcs_49 (lv_at hl 4 rfl) ?_
            refine lv_istore (lv' := [(5, .int x4), (0, .ref (u r0)), (1, .ref (u r1)), (2, .int x2), (3, .int x3), (4, .int x4)]) hx hb dcX0_markArcs_51 hl (by decide) rfl (fun ls hl => ?_)
            refine lv_iconst (v := 0) hx hb dcX0_markArcs_53 (by decide) ?_
            refine lv_istore (lv' := [(6, .int 0), (5, .int x4), (0, .ref (u r0)), (1, .ref (u r1)), (2, .int x2), (3, .int x3), (4, .int x4)]) hx hb dcX0_markArcs_54 hl (by decide) rfl (fun ls hl => ?_)
            exact ih_3 x2 x3 x4 x4 0 r0 r1 z H locs ls hr0 hr1 hM (lv_sub hl [2, 3, 4, 5, 6, 1, 0] rfl) hq
          · have hq := tw_if hq hc
            refine lv_goto (tgt := 121) hx hb dcX0_markArcs_46 (by decide) ?_
            exact ih_6 x2 x3 x4 0 0 r0 r1 z H locs ls hr0 hr1 hM (lv_sub hl [0, 1, 2, 3, 4] rfl) hq
      · intro x2 x3 x4 x5 x6 r0 r1 z H locs ls hr0 hr1 hM hl hq
        have hq : cm_X0_markArcs_3 vl K (c_X0_markArcs vl K k) x2 x3 x4 x5 x6 r0 r1 z = some z1 := hq
        unfold cm_X0_markArcs_3 at hq
        refine lv_iload hx hb dcX0_markArcs_56 (lv_at hl 6 rfl) ?_
        refine lv_iload_n hx hb dcX0_markArcs_58 rfl (lv_at hl 2 rfl) ?_
        refine lv_icmp_ge (tgt := 111) hx hb dcX0_markArcs_59 (by decide) (fun hc => ?_) (fun hc => ?_)
        · have hq := tw_it hq hc
          exact ih_5 x2 x3 x4 x5 x6 r0 r1 z H locs ls hr0 hr1 hM (lv_sub hl [0, 1, 2, 3, 4, 5, 6] rfl) hq
        · have hq := tw_if hq hc
          refine lv_iload hx hb dcX0_markArcs_62 (lv_at hl 6 rfl) ?_
          refine lv_if_eq (tgt := 74) hx hb dcX0_markArcs_64 (by decide) (fun hc => ?_) (fun hc => ?_)
          · have hq := tw_it hq hc
            exact ih_4 x2 x3 x4 x5 x6 r0 r1 z H locs ls hr0 hr1 hM (lv_sub hl [0, 1, 2, 3, 4, 5, 6] rfl) hq
          · have hq := tw_if hq hc
            refine lv_iload hx hb dcX0_markArcs_67 (lv_at hl 5 rfl) ?_
            refine lv_iconst (v := 1) hx hb dcX0_markArcs_69 (by decide) ?_
            refine lv_iand hx hb dcX0_markArcs_70 ?_
            refine lv_if_ne (tgt := 111) hx hb dcX0_markArcs_71 (by decide) (fun hc => ?_) (fun hc => ?_)
            · have hq := tw_if hq hc
              exact ih_5 x2 x3 x4 x5 x6 r0 r1 z H locs ls hr0 hr1 hM (lv_sub hl [0, 1, 2, 3, 4, 5, 6] rfl) hq
            · have hq := tw_it hq hc
              exact ih_4 x2 x3 x4 x5 x6 r0 r1 z H locs ls hr0 hr1 hM (lv_sub hl [0, 1, 2, 3, 4, 5, 6] rfl) hq
      · intro x2 x3 x4 x5 x6 r0 r1 z H locs ls hr0 hr1 hM hl hq
        have hq : cm_X0_markArcs_4 vl K (c_X0_markArcs vl K k) x2 x3 x4 x5 x6 r0 r1 z = some z1 := hq
        unfold cm_X0_markArcs_4 at hq
        refine lv_aload_n hx hb dcX0_markArcs_74 rfl (lv_at hl 0 rfl) ?_
        refine vgX0_9 hx hb hT hown hK hM hr0 dcX0_markArcs_75 ?_
        refine lv_iload hx hb dcX0_markArcs_78 (lv_at hl 5 rfl) ?_
        refine uw_iald cX_ok hx hb hK hM (cr_X0_0 hr0) hq dcX0_markArcs_80 (fun v8 hq => ?_)
        refine lv_iconst (v := (-1)) hx hb dcX0_markArcs_81 (by decide) ?_
        refine lv_icmp_ne (tgt := 111) hx hb dcX0_markArcs_82 (by decide) (fun hc => ?_) (fun hc => ?_)
        · have hq := tw_if hq hc
          exact ih_5 x2 x3 x4 x5 x6 r0 r1 z H locs ls hr0 hr1 hM (lv_sub hl [0, 1, 2, 3, 4, 5, 6] rfl) hq
        · have hq := tw_it hq hc
          refine lv_aload_n hx hb dcX0_markArcs_85 rfl (lv_at hl 0 rfl) ?_
          refine vgX0_9 hx hb hT hown hK hM hr0 dcX0_markArcs_86 ?_
          refine lv_iload hx hb dcX0_markArcs_89 (lv_at hl 5 rfl) ?_
          refine lv_aload_n hx hb dcX0_markArcs_91 rfl (lv_at hl 0 rfl) ?_
          refine vgX0_82 hx hb hT hown hK hM hr0 hq dcX0_markArcs_92 (fun v9 hq => ?_)
          refine uw_iast cX_ok hU hx hb hK hM (cr_X0_0 hr0) hq dcX0_markArcs_95 (fun z10 H locs hM hq => ?_)
          refine lv_aload_n hx hb dcX0_markArcs_96 rfl (lv_at hl 1 rfl) ?_
          refine vgX0_85 hx hb hT hown hK hM hr1 dcX0_markArcs_97 ?_
          refine lv_iload hx hb dcX0_markArcs_100 (lv_at hl 5 rfl) ?_
          refine uw_iald cX_ok hx hb hK hM (cr_X7_0 hr1) hq dcX0_markArcs_102 (fun v11 hq => ?_)
          refine lv_istore (lv' := [(5, .int v11), (0, .ref (u r0)), (1, .ref (u r1)), (2, .int x2), (3, .int x3), (4, .int x4), (6, .int x6)]) hx hb dcX0_markArcs_103 hl (by decide) rfl (fun ls hl => ?_)
          refine lv_iinc (v := (x6 + 1)) (lv' := [(6, .int (x6 + 1)), (5, .int v11), (0, .ref (u r0)), (1, .ref (u r1)), (2, .int x2), (3, .int x3), (4, .int x4)]) hx hb dcX0_markArcs_105 hl (k := 6) rfl rfl (by decide) rfl (fun ls hl => ?_)
          refine lv_goto (tgt := 56) hx hb dcX0_markArcs_108 (by decide) ?_
          exact ih_3 x2 x3 x4 v11 (x6 + 1) r0 r1 z10 H locs ls hr0 hr1 hM (lv_sub hl [2, 3, 4, 5, 6, 1, 0] rfl) hq
      · intro x2 x3 x4 x5 x6 r0 r1 z H locs ls hr0 hr1 hM hl hq
        have hq : cm_X0_markArcs_5 vl K (c_X0_markArcs vl K k) x2 x3 x4 x5 x6 r0 r1 z = some z1 := hq
        unfold cm_X0_markArcs_5 at hq
        refine lv_aload_n hx hb dcX0_markArcs_111 rfl (lv_at hl 0 rfl) ?_
        refine lv_dup hx hb dcX0_markArcs_112 rfl ?_
        refine vgX0_82 hx hb hT hown hK hM hr0 hq dcX0_markArcs_113 (fun v12 hq => ?_)
        refine lv_iconst (v := 1) hx hb dcX0_markArcs_116 (by decide) ?_
        refine lv_iadd hx hb dcX0_markArcs_117 ?_
        refine vpX0_82 hx hb hT hown hK hM hU hr0 hq dcX0_markArcs_118 (fun z13 H locs hM hq => ?_)
        exact ih_6 x2 x3 x4 0 0 r0 r1 z13 H locs ls hr0 hr1 hM (lv_sub hl [0, 1, 2, 3, 4] rfl) hq
      · intro x2 x3 x4 x5 x6 r0 r1 z H locs ls hr0 hr1 hM hl hq
        have hq : cm_X0_markArcs_6 vl K (c_X0_markArcs vl K k) x2 x3 x4 x5 x6 r0 r1 z = some z1 := hq
        unfold cm_X0_markArcs_6 at hq
        refine lv_iinc (v := (x4 + 2)) (lv' := [(4, .int (x4 + 2)), (0, .ref (u r0)), (1, .ref (u r1)), (2, .int x2), (3, .int x3)]) hx hb dcX0_markArcs_121 hl (k := 4) rfl rfl (by decide) rfl (fun ls hl => ?_)
        refine lv_goto (tgt := 29) hx hb dcX0_markArcs_124 (by decide) ?_
        exact ih_2 x2 x3 (x4 + 2) 0 0 r0 r1 z H locs ls hr0 hr1 hM (lv_sub hl [1, 2, 3, 4, 0] rfl) hq
  exact (key K).1 0 0 0 0 0 r0 r1 z s.heap [] ls hr0 hr1 hM (lv_sub hl [0, 1] rfl) hq
theorem dcX0_bringLeast_0 : decode cX0_bringLeast 0 = .ok (.iconst (-1), 1) := dw_at cX0_bringLeast_k0 (p := 0) rfl (by decide +kernel)
theorem dcX0_bringLeast_1 : decode cX0_bringLeast 1 = .ok (.istore_n 3, 1) := dw_at cX0_bringLeast_k0 (p := 1) rfl (by decide +kernel)
theorem dcX0_bringLeast_2 : decode cX0_bringLeast 2 = .ok (.iconst (-1), 1) := dw_at cX0_bringLeast_k0 (p := 2) rfl (by decide +kernel)
theorem dcX0_bringLeast_3 : decode cX0_bringLeast 3 = .ok (.istore 4, 2) := dw_at cX0_bringLeast_k0 (p := 3) rfl (by decide +kernel)
theorem dcX0_bringLeast_5 : decode cX0_bringLeast 5 = .ok (.lconst 0, 1) := dw_at cX0_bringLeast_k0 (p := 5) rfl (by decide +kernel)
theorem dcX0_bringLeast_6 : decode cX0_bringLeast 6 = .ok (.lstore 5, 2) := dw_at cX0_bringLeast_k0 (p := 6) rfl (by decide +kernel)
theorem dcX0_bringLeast_8 : decode cX0_bringLeast 8 = .ok (.iload_n 1, 1) := dw_at cX0_bringLeast_k0 (p := 8) rfl (by decide +kernel)
theorem dcX0_bringLeast_9 : decode cX0_bringLeast 9 = .ok (.istore 7, 2) := dw_at cX0_bringLeast_k0 (p := 9) rfl (by decide +kernel)
theorem dcX0_bringLeast_11 : decode cX0_bringLeast 11 = .ok (.iload 7, 2) := dw_at cX0_bringLeast_k0 (p := 11) rfl (by decide +kernel)
theorem dcX0_bringLeast_13 : decode cX0_bringLeast 13 = .ok (.iload_n 2, 1) := dw_at cX0_bringLeast_k0 (p := 13) rfl (by decide +kernel)
theorem dcX0_bringLeast_14 : decode cX0_bringLeast 14 = .ok (.if_icmp .ge 73, 3) := dw_at cX0_bringLeast_k0 (p := 14) rfl (by decide +kernel)
theorem dcX0_bringLeast_17 : decode cX0_bringLeast 17 = .ok (.iload_n 1, 1) := dw_at cX0_bringLeast_k0 (p := 17) rfl (by decide +kernel)
theorem dcX0_bringLeast_18 : decode cX0_bringLeast 18 = .ok (.istore 8, 2) := dw_at cX0_bringLeast_k0 (p := 18) rfl (by decide +kernel)
theorem dcX0_bringLeast_20 : decode cX0_bringLeast 20 = .ok (.iload 8, 2) := dw_at cX0_bringLeast_k0 (p := 20) rfl (by decide +kernel)
theorem dcX0_bringLeast_22 : decode cX0_bringLeast 22 = .ok (.aload_n 0, 1) := dw_at cX0_bringLeast_k0 (p := 22) rfl (by decide +kernel)
theorem dcX0_bringLeast_23 : decode cX0_bringLeast 23 = .ok (.getfield 82, 3) := dw_at cX0_bringLeast_k0 (p := 23) rfl (by decide +kernel)
theorem dcX0_bringLeast_26 : decode cX0_bringLeast 26 = .ok (.if_icmp .ge 55, 3) := dw_at cX0_bringLeast_k1 (p := 0) rfl (by decide +kernel)
theorem dcX0_bringLeast_29 : decode cX0_bringLeast 29 = .ok (.aload_n 0, 1) := dw_at cX0_bringLeast_k1 (p := 3) rfl (by decide +kernel)
theorem dcX0_bringLeast_30 : decode cX0_bringLeast 30 = .ok (.getfield 17, 3) := dw_at cX0_bringLeast_k1 (p := 4) rfl (by decide +kernel)
theorem dcX0_bringLeast_33 : decode cX0_bringLeast 33 = .ok (.iload 7, 2) := dw_at cX0_bringLeast_k1 (p := 7) rfl (by decide +kernel)
theorem dcX0_bringLeast_35 : decode cX0_bringLeast 35 = .ok (.aaload, 1) := dw_at cX0_bringLeast_k1 (p := 9) rfl (by decide +kernel)
theorem dcX0_bringLeast_36 : decode cX0_bringLeast 36 = .ok (.iload 8, 2) := dw_at cX0_bringLeast_k1 (p := 10) rfl (by decide +kernel)
theorem dcX0_bringLeast_38 : decode cX0_bringLeast 38 = .ok (.laload, 1) := dw_at cX0_bringLeast_k1 (p := 12) rfl (by decide +kernel)
theorem dcX0_bringLeast_39 : decode cX0_bringLeast 39 = .ok (.invokestatic 110, 3) := dw_at cX0_bringLeast_k1 (p := 13) rfl (by decide +kernel)
theorem dcX0_bringLeast_42 : decode cX0_bringLeast 42 = .ok (.lstore 9, 2) := dw_at cX0_bringLeast_k1 (p := 16) rfl (by decide +kernel)
theorem dcX0_bringLeast_44 : decode cX0_bringLeast 44 = .ok (.lload 9, 2) := dw_at cX0_bringLeast_k1 (p := 18) rfl (by decide +kernel)
theorem dcX0_bringLeast_46 : decode cX0_bringLeast 46 = .ok (.lconst 0, 1) := dw_at cX0_bringLeast_k1 (p := 20) rfl (by decide +kernel)
theorem dcX0_bringLeast_47 : decode cX0_bringLeast 47 = .ok (.lcmp, 1) := dw_at cX0_bringLeast_k1 (p := 21) rfl (by decide +kernel)
theorem dcX0_bringLeast_48 : decode cX0_bringLeast 48 = .ok (.ifCond .le 27, 3) := dw_at cX0_bringLeast_k1 (p := 22) rfl (by decide +kernel)
theorem dcX0_bringLeast_51 : decode cX0_bringLeast 51 = .ok (.iload_n 3, 1) := dw_at cX0_bringLeast_k2 (p := 0) rfl (by decide +kernel)
theorem dcX0_bringLeast_52 : decode cX0_bringLeast 52 = .ok (.iconst (-1), 1) := dw_at cX0_bringLeast_k2 (p := 1) rfl (by decide +kernel)
theorem dcX0_bringLeast_53 : decode cX0_bringLeast 53 = .ok (.if_icmp .eq 11, 3) := dw_at cX0_bringLeast_k2 (p := 2) rfl (by decide +kernel)
theorem dcX0_bringLeast_56 : decode cX0_bringLeast 56 = .ok (.lload 9, 2) := dw_at cX0_bringLeast_k2 (p := 5) rfl (by decide +kernel)
theorem dcX0_bringLeast_58 : decode cX0_bringLeast 58 = .ok (.lload 5, 2) := dw_at cX0_bringLeast_k2 (p := 7) rfl (by decide +kernel)
theorem dcX0_bringLeast_60 : decode cX0_bringLeast 60 = .ok (.lcmp, 1) := dw_at cX0_bringLeast_k2 (p := 9) rfl (by decide +kernel)
theorem dcX0_bringLeast_61 : decode cX0_bringLeast 61 = .ok (.ifCond .ge 14, 3) := dw_at cX0_bringLeast_k2 (p := 10) rfl (by decide +kernel)
theorem dcX0_bringLeast_64 : decode cX0_bringLeast 64 = .ok (.iload 7, 2) := dw_at cX0_bringLeast_k2 (p := 13) rfl (by decide +kernel)
theorem dcX0_bringLeast_66 : decode cX0_bringLeast 66 = .ok (.istore_n 3, 1) := dw_at cX0_bringLeast_k2 (p := 15) rfl (by decide +kernel)
theorem dcX0_bringLeast_67 : decode cX0_bringLeast 67 = .ok (.iload 8, 2) := dw_at cX0_bringLeast_k2 (p := 16) rfl (by decide +kernel)
theorem dcX0_bringLeast_69 : decode cX0_bringLeast 69 = .ok (.istore 4, 2) := dw_at cX0_bringLeast_k2 (p := 18) rfl (by decide +kernel)
theorem dcX0_bringLeast_71 : decode cX0_bringLeast 71 = .ok (.lload 9, 2) := dw_at cX0_bringLeast_k2 (p := 20) rfl (by decide +kernel)
theorem dcX0_bringLeast_73 : decode cX0_bringLeast 73 = .ok (.lstore 5, 2) := dw_at cX0_bringLeast_k2 (p := 22) rfl (by decide +kernel)
theorem dcX0_bringLeast_75 : decode cX0_bringLeast 75 = .ok (.iinc 8 1, 3) := dw_at cX0_bringLeast_k3 (p := 0) rfl (by decide +kernel)
theorem dcX0_bringLeast_78 : decode cX0_bringLeast 78 = .ok (.goto (-58), 3) := dw_at cX0_bringLeast_k3 (p := 3) rfl (by decide +kernel)
theorem dcX0_bringLeast_81 : decode cX0_bringLeast 81 = .ok (.iinc 7 1, 3) := dw_at cX0_bringLeast_k3 (p := 6) rfl (by decide +kernel)
theorem dcX0_bringLeast_84 : decode cX0_bringLeast 84 = .ok (.goto (-73), 3) := dw_at cX0_bringLeast_k3 (p := 9) rfl (by decide +kernel)
theorem dcX0_bringLeast_87 : decode cX0_bringLeast 87 = .ok (.iload_n 3, 1) := dw_at cX0_bringLeast_k3 (p := 12) rfl (by decide +kernel)
theorem dcX0_bringLeast_88 : decode cX0_bringLeast 88 = .ok (.iconst (-1), 1) := dw_at cX0_bringLeast_k3 (p := 13) rfl (by decide +kernel)
theorem dcX0_bringLeast_89 : decode cX0_bringLeast 89 = .ok (.if_icmp .ne 5, 3) := dw_at cX0_bringLeast_k3 (p := 14) rfl (by decide +kernel)
theorem dcX0_bringLeast_92 : decode cX0_bringLeast 92 = .ok (.iconst 0, 1) := dw_at cX0_bringLeast_k3 (p := 17) rfl (by decide +kernel)
theorem dcX0_bringLeast_93 : decode cX0_bringLeast 93 = .ok (.ireturn, 1) := dw_at cX0_bringLeast_k3 (p := 18) rfl (by decide +kernel)
theorem dcX0_bringLeast_94 : decode cX0_bringLeast 94 = .ok (.iconst 0, 1) := dw_at cX0_bringLeast_k3 (p := 19) rfl (by decide +kernel)
theorem dcX0_bringLeast_95 : decode cX0_bringLeast 95 = .ok (.istore 7, 2) := dw_at cX0_bringLeast_k3 (p := 20) rfl (by decide +kernel)
theorem dcX0_bringLeast_97 : decode cX0_bringLeast 97 = .ok (.iload 7, 2) := dw_at cX0_bringLeast_k3 (p := 22) rfl (by decide +kernel)
theorem dcX0_bringLeast_99 : decode cX0_bringLeast 99 = .ok (.aload_n 0, 1) := dw_at cX0_bringLeast_k4 (p := 0) rfl (by decide +kernel)
theorem dcX0_bringLeast_100 : decode cX0_bringLeast 100 = .ok (.getfield 82, 3) := dw_at cX0_bringLeast_k4 (p := 1) rfl (by decide +kernel)
theorem dcX0_bringLeast_103 : decode cX0_bringLeast 103 = .ok (.if_icmp .ge 49, 3) := dw_at cX0_bringLeast_k4 (p := 4) rfl (by decide +kernel)
theorem dcX0_bringLeast_106 : decode cX0_bringLeast 106 = .ok (.aload_n 0, 1) := dw_at cX0_bringLeast_k4 (p := 7) rfl (by decide +kernel)
theorem dcX0_bringLeast_107 : decode cX0_bringLeast 107 = .ok (.getfield 17, 3) := dw_at cX0_bringLeast_k4 (p := 8) rfl (by decide +kernel)
theorem dcX0_bringLeast_110 : decode cX0_bringLeast 110 = .ok (.iload_n 1, 1) := dw_at cX0_bringLeast_k4 (p := 11) rfl (by decide +kernel)
theorem dcX0_bringLeast_111 : decode cX0_bringLeast 111 = .ok (.aaload, 1) := dw_at cX0_bringLeast_k4 (p := 12) rfl (by decide +kernel)
theorem dcX0_bringLeast_112 : decode cX0_bringLeast 112 = .ok (.iload 7, 2) := dw_at cX0_bringLeast_k4 (p := 13) rfl (by decide +kernel)
theorem dcX0_bringLeast_114 : decode cX0_bringLeast 114 = .ok (.laload, 1) := dw_at cX0_bringLeast_k4 (p := 15) rfl (by decide +kernel)
theorem dcX0_bringLeast_115 : decode cX0_bringLeast 115 = .ok (.lstore 8, 2) := dw_at cX0_bringLeast_k4 (p := 16) rfl (by decide +kernel)
theorem dcX0_bringLeast_117 : decode cX0_bringLeast 117 = .ok (.aload_n 0, 1) := dw_at cX0_bringLeast_k4 (p := 18) rfl (by decide +kernel)
theorem dcX0_bringLeast_118 : decode cX0_bringLeast 118 = .ok (.getfield 17, 3) := dw_at cX0_bringLeast_k4 (p := 19) rfl (by decide +kernel)
theorem dcX0_bringLeast_121 : decode cX0_bringLeast 121 = .ok (.iload_n 1, 1) := dw_at cX0_bringLeast_k4 (p := 22) rfl (by decide +kernel)
theorem dcX0_bringLeast_122 : decode cX0_bringLeast 122 = .ok (.aaload, 1) := dw_at cX0_bringLeast_k4 (p := 23) rfl (by decide +kernel)
theorem dcX0_bringLeast_123 : decode cX0_bringLeast 123 = .ok (.iload 7, 2) := dw_at cX0_bringLeast_k5 (p := 0) rfl (by decide +kernel)
theorem dcX0_bringLeast_125 : decode cX0_bringLeast 125 = .ok (.aload_n 0, 1) := dw_at cX0_bringLeast_k5 (p := 2) rfl (by decide +kernel)
theorem dcX0_bringLeast_126 : decode cX0_bringLeast 126 = .ok (.getfield 17, 3) := dw_at cX0_bringLeast_k5 (p := 3) rfl (by decide +kernel)
theorem dcX0_bringLeast_129 : decode cX0_bringLeast 129 = .ok (.iload_n 3, 1) := dw_at cX0_bringLeast_k5 (p := 6) rfl (by decide +kernel)
theorem dcX0_bringLeast_130 : decode cX0_bringLeast 130 = .ok (.aaload, 1) := dw_at cX0_bringLeast_k5 (p := 7) rfl (by decide +kernel)
theorem dcX0_bringLeast_131 : decode cX0_bringLeast 131 = .ok (.iload 7, 2) := dw_at cX0_bringLeast_k5 (p := 8) rfl (by decide +kernel)
theorem dcX0_bringLeast_133 : decode cX0_bringLeast 133 = .ok (.laload, 1) := dw_at cX0_bringLeast_k5 (p := 10) rfl (by decide +kernel)
theorem dcX0_bringLeast_134 : decode cX0_bringLeast 134 = .ok (.lastore, 1) := dw_at cX0_bringLeast_k5 (p := 11) rfl (by decide +kernel)
theorem dcX0_bringLeast_135 : decode cX0_bringLeast 135 = .ok (.aload_n 0, 1) := dw_at cX0_bringLeast_k5 (p := 12) rfl (by decide +kernel)
theorem dcX0_bringLeast_136 : decode cX0_bringLeast 136 = .ok (.getfield 17, 3) := dw_at cX0_bringLeast_k5 (p := 13) rfl (by decide +kernel)
theorem dcX0_bringLeast_139 : decode cX0_bringLeast 139 = .ok (.iload_n 3, 1) := dw_at cX0_bringLeast_k5 (p := 16) rfl (by decide +kernel)
theorem dcX0_bringLeast_140 : decode cX0_bringLeast 140 = .ok (.aaload, 1) := dw_at cX0_bringLeast_k5 (p := 17) rfl (by decide +kernel)
theorem dcX0_bringLeast_141 : decode cX0_bringLeast 141 = .ok (.iload 7, 2) := dw_at cX0_bringLeast_k5 (p := 18) rfl (by decide +kernel)
theorem dcX0_bringLeast_143 : decode cX0_bringLeast 143 = .ok (.lload 8, 2) := dw_at cX0_bringLeast_k5 (p := 20) rfl (by decide +kernel)
theorem dcX0_bringLeast_145 : decode cX0_bringLeast 145 = .ok (.lastore, 1) := dw_at cX0_bringLeast_k5 (p := 22) rfl (by decide +kernel)
theorem dcX0_bringLeast_146 : decode cX0_bringLeast 146 = .ok (.iinc 7 1, 3) := dw_at cX0_bringLeast_k5 (p := 23) rfl (by decide +kernel)
theorem dcX0_bringLeast_149 : decode cX0_bringLeast 149 = .ok (.goto (-52), 3) := dw_at cX0_bringLeast_k6 (p := 0) rfl (by decide +kernel)
theorem dcX0_bringLeast_152 : decode cX0_bringLeast 152 = .ok (.iconst 0, 1) := dw_at cX0_bringLeast_k6 (p := 3) rfl (by decide +kernel)
theorem dcX0_bringLeast_153 : decode cX0_bringLeast 153 = .ok (.istore 7, 2) := dw_at cX0_bringLeast_k6 (p := 4) rfl (by decide +kernel)
theorem dcX0_bringLeast_155 : decode cX0_bringLeast 155 = .ok (.iload 7, 2) := dw_at cX0_bringLeast_k6 (p := 6) rfl (by decide +kernel)
theorem dcX0_bringLeast_157 : decode cX0_bringLeast 157 = .ok (.iload_n 2, 1) := dw_at cX0_bringLeast_k6 (p := 8) rfl (by decide +kernel)
theorem dcX0_bringLeast_158 : decode cX0_bringLeast 158 = .ok (.if_icmp .ge 51, 3) := dw_at cX0_bringLeast_k6 (p := 9) rfl (by decide +kernel)
theorem dcX0_bringLeast_161 : decode cX0_bringLeast 161 = .ok (.aload_n 0, 1) := dw_at cX0_bringLeast_k6 (p := 12) rfl (by decide +kernel)
theorem dcX0_bringLeast_162 : decode cX0_bringLeast 162 = .ok (.getfield 17, 3) := dw_at cX0_bringLeast_k6 (p := 13) rfl (by decide +kernel)
theorem dcX0_bringLeast_165 : decode cX0_bringLeast 165 = .ok (.iload 7, 2) := dw_at cX0_bringLeast_k6 (p := 16) rfl (by decide +kernel)
theorem dcX0_bringLeast_167 : decode cX0_bringLeast 167 = .ok (.aaload, 1) := dw_at cX0_bringLeast_k6 (p := 18) rfl (by decide +kernel)
theorem dcX0_bringLeast_168 : decode cX0_bringLeast 168 = .ok (.iload_n 1, 1) := dw_at cX0_bringLeast_k6 (p := 19) rfl (by decide +kernel)
theorem dcX0_bringLeast_169 : decode cX0_bringLeast 169 = .ok (.laload, 1) := dw_at cX0_bringLeast_k6 (p := 20) rfl (by decide +kernel)
theorem dcX0_bringLeast_170 : decode cX0_bringLeast 170 = .ok (.lstore 8, 2) := dw_at cX0_bringLeast_k6 (p := 21) rfl (by decide +kernel)
theorem dcX0_bringLeast_172 : decode cX0_bringLeast 172 = .ok (.aload_n 0, 1) := dw_at cX0_bringLeast_k6 (p := 23) rfl (by decide +kernel)
theorem dcX0_bringLeast_173 : decode cX0_bringLeast 173 = .ok (.getfield 17, 3) := dw_at cX0_bringLeast_k7 (p := 0) rfl (by decide +kernel)
theorem dcX0_bringLeast_176 : decode cX0_bringLeast 176 = .ok (.iload 7, 2) := dw_at cX0_bringLeast_k7 (p := 3) rfl (by decide +kernel)
theorem dcX0_bringLeast_178 : decode cX0_bringLeast 178 = .ok (.aaload, 1) := dw_at cX0_bringLeast_k7 (p := 5) rfl (by decide +kernel)
theorem dcX0_bringLeast_179 : decode cX0_bringLeast 179 = .ok (.iload_n 1, 1) := dw_at cX0_bringLeast_k7 (p := 6) rfl (by decide +kernel)
theorem dcX0_bringLeast_180 : decode cX0_bringLeast 180 = .ok (.aload_n 0, 1) := dw_at cX0_bringLeast_k7 (p := 7) rfl (by decide +kernel)
theorem dcX0_bringLeast_181 : decode cX0_bringLeast 181 = .ok (.getfield 17, 3) := dw_at cX0_bringLeast_k7 (p := 8) rfl (by decide +kernel)
theorem dcX0_bringLeast_184 : decode cX0_bringLeast 184 = .ok (.iload 7, 2) := dw_at cX0_bringLeast_k7 (p := 11) rfl (by decide +kernel)
theorem dcX0_bringLeast_186 : decode cX0_bringLeast 186 = .ok (.aaload, 1) := dw_at cX0_bringLeast_k7 (p := 13) rfl (by decide +kernel)
theorem dcX0_bringLeast_187 : decode cX0_bringLeast 187 = .ok (.iload 4, 2) := dw_at cX0_bringLeast_k7 (p := 14) rfl (by decide +kernel)
theorem dcX0_bringLeast_189 : decode cX0_bringLeast 189 = .ok (.laload, 1) := dw_at cX0_bringLeast_k7 (p := 16) rfl (by decide +kernel)
theorem dcX0_bringLeast_190 : decode cX0_bringLeast 190 = .ok (.lastore, 1) := dw_at cX0_bringLeast_k7 (p := 17) rfl (by decide +kernel)
theorem dcX0_bringLeast_191 : decode cX0_bringLeast 191 = .ok (.aload_n 0, 1) := dw_at cX0_bringLeast_k7 (p := 18) rfl (by decide +kernel)
theorem dcX0_bringLeast_192 : decode cX0_bringLeast 192 = .ok (.getfield 17, 3) := dw_at cX0_bringLeast_k7 (p := 19) rfl (by decide +kernel)
theorem dcX0_bringLeast_195 : decode cX0_bringLeast 195 = .ok (.iload 7, 2) := dw_at cX0_bringLeast_k7 (p := 22) rfl (by decide +kernel)
theorem dcX0_bringLeast_197 : decode cX0_bringLeast 197 = .ok (.aaload, 1) := dw_at cX0_bringLeast_k8 (p := 0) rfl (by decide +kernel)
theorem dcX0_bringLeast_198 : decode cX0_bringLeast 198 = .ok (.iload 4, 2) := dw_at cX0_bringLeast_k8 (p := 1) rfl (by decide +kernel)
theorem dcX0_bringLeast_200 : decode cX0_bringLeast 200 = .ok (.lload 8, 2) := dw_at cX0_bringLeast_k8 (p := 3) rfl (by decide +kernel)
theorem dcX0_bringLeast_202 : decode cX0_bringLeast 202 = .ok (.lastore, 1) := dw_at cX0_bringLeast_k8 (p := 5) rfl (by decide +kernel)
theorem dcX0_bringLeast_203 : decode cX0_bringLeast 203 = .ok (.iinc 7 1, 3) := dw_at cX0_bringLeast_k8 (p := 6) rfl (by decide +kernel)
theorem dcX0_bringLeast_206 : decode cX0_bringLeast 206 = .ok (.goto (-51), 3) := dw_at cX0_bringLeast_k8 (p := 9) rfl (by decide +kernel)
theorem dcX0_bringLeast_209 : decode cX0_bringLeast 209 = .ok (.iconst 1, 1) := dw_at cX0_bringLeast_k8 (p := 12) rfl (by decide +kernel)
theorem dcX0_bringLeast_210 : decode cX0_bringLeast 210 = .ok (.ireturn, 1) := dw_at cX0_bringLeast_k8 (p := 13) rfl (by decide +kernel)
def cm_X0_bringLeast_0 (vl : Nat → Nat) (K : Nat) (go : Nat → Int32 → Int32 → Int32 → Int32 → Int32 → Int32 → Int64 → Int64 → Nat → ow_MS → Option (Int32 × ow_MS)) (x1 : Int32) (x2 : Int32) (x3 : Int32) (x4 : Int32) (x7 : Int32) (x8 : Int32) (w5 : Int64) (w9 : Int64) (r0 : Nat) (z : ow_MS) : Option (Int32 × ow_MS) :=
 go 1 x1 x2 (-1) (-1) x1 0 0 0 r0 z
def cm_X0_bringLeast_1 (vl : Nat → Nat) (K : Nat) (go : Nat → Int32 → Int32 → Int32 → Int32 → Int32 → Int32 → Int64 → Int64 → Nat → ow_MS → Option (Int32 × ow_MS)) (x1 : Int32) (x2 : Int32) (x3 : Int32) (x4 : Int32) (x7 : Int32) (x8 : Int32) (w5 : Int64) (w9 : Int64) (r0 : Nat) (z : ow_MS) : Option (Int32 × ow_MS) :=
 (if x2 ≤ x7 then (if x3 = (-1) then okZ 0 (some (0, z))
 else go 5 x1 x2 x3 x4 0 0 w5 0 r0 z)
 else go 2 x1 x2 x3 x4 x7 x1 w5 0 r0 z)
def cm_X0_bringLeast_2 (vl : Nat → Nat) (K : Nat) (go : Nat → Int32 → Int32 → Int32 → Int32 → Int32 → Int32 → Int64 → Int64 → Nat → ow_MS → Option (Int32 × ow_MS)) (x1 : Int32) (x2 : Int32) (x3 : Int32) (x4 : Int32) (x7 : Int32) (x8 : Int32) (w5 : Int64) (w9 : Int64) (r0 : Nat) (z : ow_MS) : Option (Int32 × ow_MS) :=
 rdF z (r0 + 2) fun v1 => (if v1 ≤ x8 then go 1 x1 x2 x3 x4 (x7 + 1) 0 w5 0 r0 z
 else crX 12 x7 fun j2 => crJ (cX vl) z (r0 + 1001 + j2) x8 fun v3 => (if (lg_cmp (if 0 < v3 then v3 else -v3) 0) ≤ 0 then go 4 x1 x2 x3 x4 x7 x8 w5 (if 0 < v3 then v3 else -v3) r0 z
 else (if x3 = (-1) then go 3 x1 x2 x3 x4 x7 x8 w5 (if 0 < v3 then v3 else -v3) r0 z
 else (if 0 ≤ (lg_cmp (if 0 < v3 then v3 else -v3) w5) then go 4 x1 x2 x3 x4 x7 x8 w5 (if 0 < v3 then v3 else -v3) r0 z
 else go 3 x1 x2 x3 x4 x7 x8 w5 (if 0 < v3 then v3 else -v3) r0 z))))
def cm_X0_bringLeast_3 (vl : Nat → Nat) (K : Nat) (go : Nat → Int32 → Int32 → Int32 → Int32 → Int32 → Int32 → Int64 → Int64 → Nat → ow_MS → Option (Int32 × ow_MS)) (x1 : Int32) (x2 : Int32) (x3 : Int32) (x4 : Int32) (x7 : Int32) (x8 : Int32) (w5 : Int64) (w9 : Int64) (r0 : Nat) (z : ow_MS) : Option (Int32 × ow_MS) :=
 go 4 x1 x2 x7 x8 x7 x8 w9 w9 r0 z
def cm_X0_bringLeast_4 (vl : Nat → Nat) (K : Nat) (go : Nat → Int32 → Int32 → Int32 → Int32 → Int32 → Int32 → Int64 → Int64 → Nat → ow_MS → Option (Int32 × ow_MS)) (x1 : Int32) (x2 : Int32) (x3 : Int32) (x4 : Int32) (x7 : Int32) (x8 : Int32) (w5 : Int64) (w9 : Int64) (r0 : Nat) (z : ow_MS) : Option (Int32 × ow_MS) :=
 go 2 x1 x2 x3 x4 x7 (x8 + 1) w5 0 r0 z
def cm_X0_bringLeast_5 (vl : Nat → Nat) (K : Nat) (go : Nat → Int32 → Int32 → Int32 → Int32 → Int32 → Int32 → Int64 → Int64 → Nat → ow_MS → Option (Int32 × ow_MS)) (x1 : Int32) (x2 : Int32) (x3 : Int32) (x4 : Int32) (x7 : Int32) (x8 : Int32) (w5 : Int64) (w9 : Int64) (r0 : Nat) (z : ow_MS) : Option (Int32 × ow_MS) :=
 rdF z (r0 + 2) fun v4 => (if v4 ≤ x7 then go 6 x1 x2 x3 x4 0 0 w5 0 r0 z
 else crX 12 x1 fun j5 => crJ (cX vl) z (r0 + 1001 + j5) x7 fun v6 => crX 12 x1 fun j7 => crX 12 x3 fun j8 => crJ (cX vl) z (r0 + 1001 + j8) x7 fun v9 => ctJ (cX vl) z (r0 + 1001 + j7) x7 v9 fun z10 => crX 12 x3 fun j11 => ctJ (cX vl) z10 (r0 + 1001 + j11) x7 v6 fun z12 => go 5 x1 x2 x3 x4 (x7 + 1) 0 w5 0 r0 z12)
def cm_X0_bringLeast_6 (vl : Nat → Nat) (K : Nat) (go : Nat → Int32 → Int32 → Int32 → Int32 → Int32 → Int32 → Int64 → Int64 → Nat → ow_MS → Option (Int32 × ow_MS)) (x1 : Int32) (x2 : Int32) (x3 : Int32) (x4 : Int32) (x7 : Int32) (x8 : Int32) (w5 : Int64) (w9 : Int64) (r0 : Nat) (z : ow_MS) : Option (Int32 × ow_MS) :=
 (if x2 ≤ x7 then okZ 1 (some (1, z))
 else crX 12 x7 fun j13 => crJ (cX vl) z (r0 + 1001 + j13) x1 fun v14 => crX 12 x7 fun j15 => crX 12 x7 fun j16 => crJ (cX vl) z (r0 + 1001 + j16) x4 fun v17 => ctJ (cX vl) z (r0 + 1001 + j15) x1 v17 fun z18 => crX 12 x7 fun j19 => ctJ (cX vl) z18 (r0 + 1001 + j19) x4 v14 fun z20 => go 6 x1 x2 x3 x4 (x7 + 1) 0 w5 0 r0 z20)
def cb_X0_bringLeast (vl : Nat → Nat) (K : Nat) (go : Nat → Int32 → Int32 → Int32 → Int32 → Int32 → Int32 → Int64 → Int64 → Nat → ow_MS → Option (Int32 × ow_MS)) (L : Nat) (x1 : Int32) (x2 : Int32) (x3 : Int32) (x4 : Int32) (x7 : Int32) (x8 : Int32) (w5 : Int64) (w9 : Int64) (r0 : Nat) (z : ow_MS) : Option (Int32 × ow_MS) := match L with
  | 0 => cm_X0_bringLeast_0 vl K go x1 x2 x3 x4 x7 x8 w5 w9 r0 z
  | 1 => cm_X0_bringLeast_1 vl K go x1 x2 x3 x4 x7 x8 w5 w9 r0 z
  | 2 => cm_X0_bringLeast_2 vl K go x1 x2 x3 x4 x7 x8 w5 w9 r0 z
  | 3 => cm_X0_bringLeast_3 vl K go x1 x2 x3 x4 x7 x8 w5 w9 r0 z
  | 4 => cm_X0_bringLeast_4 vl K go x1 x2 x3 x4 x7 x8 w5 w9 r0 z
  | 5 => cm_X0_bringLeast_5 vl K go x1 x2 x3 x4 x7 x8 w5 w9 r0 z
  | 6 => cm_X0_bringLeast_6 vl K go x1 x2 x3 x4 x7 x8 w5 w9 r0 z
  | _ => none
def c_X0_bringLeast (vl : Nat → Nat) (K : Nat) : Nat → Nat → Int32 → Int32 → Int32 → Int32 → Int32 → Int32 → Int64 → Int64 → Nat → ow_MS → Option (Int32 × ow_MS)
  | 0 => fun _ _ _ _ _ _ _ _ _ _ _ => none
  | k + 1 => cb_X0_bringLeast vl K (c_X0_bringLeast vl K k)
def ce_X0_bringLeast (vl : Nat → Nat) (K : Nat) (r0 : Nat) (x1 : Int32) (x2 : Int32) (z : ow_MS) : Option (Int32 × ow_MS) := c_X0_bringLeast vl K K 0 x1 x2 0 0 0 0 0 0 r0 z
abbrev wc_X0_bringLeast : List Cond := .code yX0_bringLeast cX0_bringLeast 11 (some .boolean) :: wC
theorem cdd_X0_bringLeast : yX0_bringLeast.cls = RX0 ∧ yX0_bringLeast.cls ≠ "java/lang/invoke/MethodHandle" ∧ yX0_bringLeast.cls ≠ "java/lang/invoke/VarHandle" ∧ (parseMethodDescriptor yX0_bringLeast.desc).map (fun d => d.parameters.length) = some 2 := by decide +kernel
set_option maxHeartbeats 4000000 in
set_option maxRecDepth 100000 in
theorem kc_X0_bringLeast (l : Launch) (D : va_G) (q : Nat → ClassId) (vl u : Nat → Nat) (hU0 : tw_inj (cX vl) u) (K : Nat) (r0 : Nat) (x1 : Int32) (x2 : Int32) (hr0 : cw_X0 r0) (z z1 : ow_MS) (r : Int32) (hq : ce_X0_bringLeast vl K r0 x1 x2 z = some (r, z1)) : Met l yX0_bringLeast wc_X0_bringLeast ({ frames := 1, cells := 0, slots := 0, locals := 29 } : Room) (va_Pc [.ref (u r0), .int x1, .int x2] (cw_pre D q vl u z)) (va_Qi (fun x (_ : Unit) => x = r) (fun _ t => va_P D vwCl (uw (cX vl) q u z1) t.heap) (tw_A (cX vl) u)) 0 0 (tw_A (cX vl) u) := by
  refine Met.ofW (cc := cX0_bringLeast) (maxL := 11) (ret := (some .boolean)) (by decide) rfl ?_
  intro p e s m args below meth c s₁ B hml hv
  obtain ⟨rfl, hP, hK⟩ := hv
  have hx := B.exec
  have hb := B.bytes
  have hr := B.returns
  have hts := atoms_spec (ws := wc_X0_bringLeast) B.pre
  have hT : ∀ w ∈ wC, w.before ([.ref (u r0), .int x1, .int x2] : List Value).toArray s = true := fun w h => hts w (List.mem_cons_of_mem _ h)
  have hown : s.vm.findClass RX0 = some m.cls := findClass_of_methodNamed B.named
  have hlocks := B.notSynchronized
  have hU : uw_inj (cX vl) u (tw_A (cX vl) u) := ⟨hU0, fun h hh => ⟨h, hh, rfl⟩⟩
  have hM : uw_M D vwCl (cX vl) q (tw_A (cX vl) u) s.heap u z s.heap [] := ⟨hP, va_S.rf⟩
  have hl := lv_entry ([.ref (u r0), .int x1, .int x2]) (n := 11) (Nat.le_of_ble_eq_true rfl)
  rw [lg_entry_eq]
  generalize (lg_sl ([.ref (u r0), .int x1, .int x2]) ++ List.replicate (11 - (lg_sl ([.ref (u r0), .int x1, .int x2])).length) Slot.unset).toArray = ls at hl ⊢
  have hl : lv_has ls 11 [(0, .ref (u r0)), (1, .int x1), (2, .int x2)] := hl
  refine ow_named (fun QQ hQQ => ?_)
  generalize ([.ref (u r0), .int x1, .int x2] : List Value).toArray = args at hts hT hQQ ⊢
  have key : ∀ k : Nat, (∀ (x1 : Int32) (x2 : Int32) (x3 : Int32) (x4 : Int32) (x7 : Int32) (x8 : Int32) (w5 : Int64) (w9 : Int64) (r0 : Nat) (z : ow_MS) (H : Heap) (locs : List Loc) (ls : Array Slot), cw_X0 r0 → uw_M D vwCl (cX vl) q (tw_A (cX vl) u) s.heap u z H locs → lv_has ls 11 [(0, .ref (u r0)), (1, .int x1), (2, .int x2)] → c_X0_bringLeast vl K k 0 x1 x2 x3 x4 x7 x8 w5 w9 r0 z = some (r, z1) → W p l e ({ frames := 1, cells := 0, slots := 0, locals := 29 } : Room) s m args below meth c H locs 0 0 QQ (F0 m 0 ls [])) ∧ (∀ (x1 : Int32) (x2 : Int32) (x3 : Int32) (x4 : Int32) (x7 : Int32) (x8 : Int32) (w5 : Int64) (w9 : Int64) (r0 : Nat) (z : ow_MS) (H : Heap) (locs : List Loc) (ls : Array Slot), cw_X0 r0 → uw_M D vwCl (cX vl) q (tw_A (cX vl) u) s.heap u z H locs → lv_has ls 11 [(0, .ref (u r0)), (1, .int x1), (2, .int x2), (3, .int x3), (4, .int x4), (5, .long w5), (7, .int x7)] → c_X0_bringLeast vl K k 1 x1 x2 x3 x4 x7 x8 w5 w9 r0 z = some (r, z1) → W p l e ({ frames := 1, cells := 0, slots := 0, locals := 29 } : Room) s m args below meth c H locs 0 0 QQ (F0 m 11 ls [])) ∧ (∀ (x1 : Int32) (x2 : Int32) (x3 : Int32) (x4 : Int32) (x7 : Int32) (x8 : Int32) (w5 : Int64) (w9 : Int64) (r0 : Nat) (z : ow_MS) (H : Heap) (locs : List Loc) (ls : Array Slot), cw_X0 r0 → uw_M D vwCl (cX vl) q (tw_A (cX vl) u) s.heap u z H locs → lv_has ls 11 [(0, .ref (u r0)), (1, .int x1), (2, .int x2), (3, .int x3), (4, .int x4), (5, .long w5), (7, .int x7), (8, .int x8)] → c_X0_bringLeast vl K k 2 x1 x2 x3 x4 x7 x8 w5 w9 r0 z = some (r, z1) → W p l e ({ frames := 1, cells := 0, slots := 0, locals := 29 } : Room) s m args below meth c H locs 0 0 QQ (F0 m 20 ls [])) ∧ (∀ (x1 : Int32) (x2 : Int32) (x3 : Int32) (x4 : Int32) (x7 : Int32) (x8 : Int32) (w5 : Int64) (w9 : Int64) (r0 : Nat) (z : ow_MS) (H : Heap) (locs : List Loc) (ls : Array Slot), cw_X0 r0 → uw_M D vwCl (cX vl) q (tw_A (cX vl) u) s.heap u z H locs → lv_has ls 11 [(0, .ref (u r0)), (1, .int x1), (2, .int x2), (3, .int x3), (4, .int x4), (5, .long w5), (7, .int x7), (8, .int x8), (9, .long w9)] → c_X0_bringLeast vl K k 3 x1 x2 x3 x4 x7 x8 w5 w9 r0 z = some (r, z1) → W p l e ({ frames := 1, cells := 0, slots := 0, locals := 29 } : Room) s m args below meth c H locs 0 0 QQ (F0 m 64 ls [])) ∧ (∀ (x1 : Int32) (x2 : Int32) (x3 : Int32) (x4 : Int32) (x7 : Int32) (x8 : Int32) (w5 : Int64) (w9 : Int64) (r0 : Nat) (z : ow_MS) (H : Heap) (locs : List Loc) (ls : Array Slot), cw_X0 r0 → uw_M D vwCl (cX vl) q (tw_A (cX vl) u) s.heap u z H locs → lv_has ls 11 [(0, .ref (u r0)), (1, .int x1), (2, .int x2), (3, .int x3), (4, .int x4), (5, .long w5), (7, .int x7), (8, .int x8), (9, .long w9)] → c_X0_bringLeast vl K k 4 x1 x2 x3 x4 x7 x8 w5 w9 r0 z = some (r, z1) → W p l e ({ frames := 1, cells := 0, slots := 0, locals := 29 } : Room) s m args below meth c H locs 0 0 QQ (F0 m 75 ls [])) ∧ (∀ (x1 : Int32) (x2 : Int32) (x3 : Int32) (x4 : Int32) (x7 : Int32) (x8 : Int32) (w5 : Int64) (w9 : Int64) (r0 : Nat) (z : ow_MS) (H : Heap) (locs : List Loc) (ls : Array Slot), cw_X0 r0 → uw_M D vwCl (cX vl) q (tw_A (cX vl) u) s.heap u z H locs → lv_has ls 11 [(0, .ref (u r0)), (1, .int x1), (2, .int x2), (3, .int x3), (4, .int x4), (5, .long w5), (7, .int x7)] → c_X0_bringLeast vl K k 5 x1 x2 x3 x4 x7 x8 w5 w9 r0 z = some (r, z1) → W p l e ({ frames := 1, cells := 0, slots := 0, locals := 29 } : Room) s m args below meth c H locs 0 0 QQ (F0 m 97 ls [])) ∧ (∀ (x1 : Int32) (x2 : Int32) (x3 : Int32) (x4 : Int32) (x7 : Int32) (x8 : Int32) (w5 : Int64) (w9 : Int64) (r0 : Nat) (z : ow_MS) (H : Heap) (locs : List Loc) (ls : Array Slot), cw_X0 r0 → uw_M D vwCl (cX vl) q (tw_A (cX vl) u) s.heap u z H locs → lv_has ls 11 [(0, .ref (u r0)), (1, .int x1), (2, .int x2), (3, .int x3), (4, .int x4), (5, .long w5), (7, .int x7)] → c_X0_bringLeast vl K k 6 x1 x2 x3 x4 x7 x8 w5 w9 r0 z = some (r, z1) → W p l e ({ frames := 1, cells := 0, slots := 0, locals := 29 } : Room) s m args below meth c H locs 0 0 QQ (F0 m 155 ls [])) := by
    intro k
    induction k with
    | zero => exact ⟨fun _ _ _ _ _ _ _ _ _ _ _ _ _ _ _ _ hq => cw_no hq, fun _ _ _ _ _ _ _ _ _ _ _ _ _ _ _ _ hq => cw_no hq, fun _ _ _ _ _ _ _ _ _ _ _ _ _ _ _ _ hq => cw_no hq, fun _ _ _ _ _ _ _ _ _ _ _ _ _ _ _ _ hq => cw_no hq, fun _ _ _ _ _ _ _ _ _ _ _ _ _ _ _ _ hq => cw_no hq, fun _ _ _ _ _ _ _ _ _ _ _ _ _ _ _ _ hq => cw_no hq, fun _ _ _ _ _ _ _ _ _ _ _ _ _ _ _ _ hq => cw_no hq⟩
    | succ k ih =>
      obtain ⟨ih_0, ih_1, ih_2, ih_3, ih_4, ih_5, ih_6⟩ := ih
      refine ⟨?_, ?_, ?_, ?_, ?_, ?_, ?_⟩
      · intro x1 x2 x3 x4 x7 x8 w5 w9 r0 z H locs ls hr0 hM hl hq
        have hq : cm_X0_bringLeast_0 vl K (c_X0_bringLeast vl K k) x1 x2 x3 x4 x7 x8 w5 w9 r0 z = some (r, z1) := hq
        unfold cm_X0_bringLeast_0 at hq
        refine lv_iconst (v := (-1)) hx hb dcX0_bringLeast_0 (by decide) ?_
        refine lv_istore_n (lv' := [(3, .int (-1)), (0, .ref (u r0)), (1, .int x1), (2, .int x2)]) hx hb dcX0_bringLeast_1 rfl hl (by decide) rfl (fun ls hl => ?_)
        refine lv_iconst (v := (-1)) hx hb dcX0_bringLeast_2 (by decide) ?_
        refine lv_istore (lv' := [(4, .int (-1)), (3, .int (-1)), (0, .ref (u r0)), (1, .int x1), (2, .int x2)]) hx hb dcX0_bringLeast_3 hl (by decide) rfl (fun ls hl => ?_)
        refine lv_lconst (v := 0) hx hb dcX0_bringLeast_5 rfl ?_
        refine lv_lstore (lv' := [(5, .long 0), (4, .int (-1)), (3, .int (-1)), (0, .ref (u r0)), (1, .int x1), (2, .int x2)]) hx hb dcX0_bringLeast_6 hl (by decide) rfl (fun ls hl => ?_)
        refine lv_iload_n hx hb dcX0_bringLeast_8 rfl (lv_at hl 4 rfl) ?_
        refine lv_istore (lv' := [(7, .int x1), (5, .long 0), (4, .int (-1)), (3, .int (-1)), (0, .ref (u r0)), (1, .int x1), (2, .int x2)]) hx hb dcX0_bringLeast_9 hl (by decide) rfl (fun ls hl => ?_)
        exact ih_1 x1 x2 (-1) (-1) x1 0 0 0 r0 z H locs ls hr0 hM (lv_sub hl [4, 5, 6, 3, 2, 1, 0] rfl) hq
      · intro x1 x2 x3 x4 x7 x8 w5 w9 r0 z H locs ls hr0 hM hl hq
        have hq : cm_X0_bringLeast_1 vl K (c_X0_bringLeast vl K k) x1 x2 x3 x4 x7 x8 w5 w9 r0 z = some (r, z1) := hq
        unfold cm_X0_bringLeast_1 at hq
        refine lv_iload hx hb dcX0_bringLeast_11 (lv_at hl 6 rfl) ?_
        refine lv_iload_n hx hb dcX0_bringLeast_13 rfl (lv_at hl 2 rfl) ?_
        refine lv_icmp_ge (tgt := 87) hx hb dcX0_bringLeast_14 (by decide) (fun hc => ?_) (fun hc => ?_)
        · have hq := tw_it hq hc
          refine lv_iload_n hx hb dcX0_bringLeast_87 rfl (lv_at hl 3 rfl) ?_
          refine lv_iconst (v := (-1)) hx hb dcX0_bringLeast_88 (by decide) ?_
          refine lv_icmp_ne (tgt := 94) hx hb dcX0_bringLeast_89 (by decide) (fun hc => ?_) (fun hc => ?_)
          · have hq := tw_if hq hc
            refine lv_iconst (v := 0) hx hb dcX0_bringLeast_94 (by decide) ?_
            refine lv_istore (lv' := [(7, .int 0), (0, .ref (u r0)), (1, .int x1), (2, .int x2), (3, .int x3), (4, .int x4), (5, .long w5)]) hx hb dcX0_bringLeast_95 hl (by decide) rfl (fun ls hl => ?_)
            exact ih_5 x1 x2 x3 x4 0 0 w5 0 r0 z H locs ls hr0 hM (lv_sub hl [1, 2, 3, 4, 5, 6, 0] rfl) hq
          · have hq := tw_it hq hc
            refine lv_iconst (v := 0) hx hb dcX0_bringLeast_92 (by decide) ?_
            obtain ⟨hz, hq⟩ := tw_gZ hq
            exact cw_zret hx hb hr hlocks hM hz hq hQQ dcX0_bringLeast_93
        · have hq := tw_if hq hc
          refine lv_iload_n hx hb dcX0_bringLeast_17 rfl (lv_at hl 1 rfl) ?_
          refine lv_istore (lv' := [(8, .int x1), (0, .ref (u r0)), (1, .int x1), (2, .int x2), (3, .int x3), (4, .int x4), (5, .long w5), (7, .int x7)]) hx hb dcX0_bringLeast_18 hl (by decide) rfl (fun ls hl => ?_)
          exact ih_2 x1 x2 x3 x4 x7 x1 w5 0 r0 z H locs ls hr0 hM (lv_sub hl [1, 2, 3, 4, 5, 6, 7, 0] rfl) hq
      · intro x1 x2 x3 x4 x7 x8 w5 w9 r0 z H locs ls hr0 hM hl hq
        have hq : cm_X0_bringLeast_2 vl K (c_X0_bringLeast vl K k) x1 x2 x3 x4 x7 x8 w5 w9 r0 z = some (r, z1) := hq
        unfold cm_X0_bringLeast_2 at hq
        refine lv_iload hx hb dcX0_bringLeast_20 (lv_at hl 7 rfl) ?_
        refine lv_aload_n hx hb dcX0_bringLeast_22 rfl (lv_at hl 0 rfl) ?_
        refine vgX0_82 hx hb hT hown hK hM hr0 hq dcX0_bringLeast_23 (fun v1 hq => ?_)
        refine lv_icmp_ge (tgt := 81) hx hb dcX0_bringLeast_26 (by decide) (fun hc => ?_) (fun hc => ?_)
        · have hq := tw_it hq hc
          refine lv_iinc (v := (x7 + 1)) (lv' := [(7, .int (x7 + 1)), (0, .ref (u r0)), (1, .int x1), (2, .int x2), (3, .int x3), (4, .int x4), (5, .long w5), (8, .int x8)]) hx hb dcX0_bringLeast_81 hl (k := 6) rfl rfl (by decide) rfl (fun ls hl => ?_)
          refine lv_goto (tgt := 11) hx hb dcX0_bringLeast_84 (by decide) ?_
          exact ih_1 x1 x2 x3 x4 (x7 + 1) 0 w5 0 r0 z H locs ls hr0 hM (lv_sub hl [1, 2, 3, 4, 5, 6, 0] rfl) hq
        · have hq := tw_if hq hc
          refine lv_aload_n hx hb dcX0_bringLeast_29 rfl (lv_at hl 0 rfl) ?_
          refine vgX0_17 hx hb hT hown hK hM hr0 dcX0_bringLeast_30 ?_
          refine lv_iload hx hb dcX0_bringLeast_33 (lv_at hl 6 rfl) ?_
          refine ca_X0_2 hx hb hK hM hr0 hq dcX0_bringLeast_35 (fun j2 hj2 hq => ?_)
          refine lv_iload hx hb dcX0_bringLeast_36 (lv_at hl 7 rfl) ?_
          refine uw_lald cX_ok hx hb hK hM (cg_X0_2 hr0 hj2) hq dcX0_bringLeast_38 (fun v3 hq => ?_)
          refine va_mabs_long hx hb (by rw [hml]; exact hl.1.symm) hown (hT _ xq_16) (hT _ xq_17) (hT _ xq_18) (hT _ xq_19) (Nat.le_of_ble_eq_true rfl) (Nat.le_of_ble_eq_true rfl) (Nat.le_of_ble_eq_true rfl) (Nat.le_of_ble_eq_true rfl) dcX0_bringLeast_39 ?_
          refine lv_lstore (lv' := [(9, .long (if 0 < v3 then v3 else -v3)), (0, .ref (u r0)), (1, .int x1), (2, .int x2), (3, .int x3), (4, .int x4), (5, .long w5), (7, .int x7), (8, .int x8)]) hx hb dcX0_bringLeast_42 hl (by decide) rfl (fun ls hl => ?_)
          refine lv_lload hx hb dcX0_bringLeast_44 (lv_at hl 0 rfl) ?_
          refine lv_lconst (v := 0) hx hb dcX0_bringLeast_46 rfl ?_
          refine W.lcmp hx hb dcX0_bringLeast_47 ?_
          refine lv_if_le (tgt := 75) hx hb dcX0_bringLeast_48 (by decide) (fun hc => ?_) (fun hc => ?_)
          · have hq := tw_it hq hc
            exact ih_4 x1 x2 x3 x4 x7 x8 w5 (if 0 < v3 then v3 else -v3) r0 z H locs ls hr0 hM (lv_sub hl [1, 2, 3, 4, 5, 6, 7, 8, 0] rfl) hq
          · have hq := tw_if hq hc
            refine lv_iload_n hx hb dcX0_bringLeast_51 rfl (lv_at hl 4 rfl) ?_
            refine lv_iconst (v := (-1)) hx hb dcX0_bringLeast_52 (by decide) ?_
            refine lv_icmp_eq (tgt := 64) hx hb dcX0_bringLeast_53 (by decide) (fun hc => ?_) (fun hc => ?_)
            · have hq := tw_it hq hc
              exact ih_3 x1 x2 x3 x4 x7 x8 w5 (if 0 < v3 then v3 else -v3) r0 z H locs ls hr0 hM (lv_sub hl [1, 2, 3, 4, 5, 6, 7, 8, 0] rfl) hq
            · have hq := tw_if hq hc
              refine lv_lload hx hb dcX0_bringLeast_56 (lv_at hl 0 rfl) ?_
              refine lv_lload hx hb dcX0_bringLeast_58 (lv_at hl 6 rfl) ?_
              refine W.lcmp hx hb dcX0_bringLeast_60 ?_
              refine lv_if_ge (tgt := 75) hx hb dcX0_bringLeast_61 (by decide) (fun hc => ?_) (fun hc => ?_)
              · have hq := tw_it hq hc
                exact ih_4 x1 x2 x3 x4 x7 x8 w5 (if 0 < v3 then v3 else -v3) r0 z H locs ls hr0 hM (lv_sub hl [1, 2, 3, 4, 5, 6, 7, 8, 0] rfl) hq
              · have hq := tw_if hq hc
                exact ih_3 x1 x2 x3 x4 x7 x8 w5 (if 0 < v3 then v3 else -v3) r0 z H locs ls hr0 hM (lv_sub hl [1, 2, 3, 4, 5, 6, 7, 8, 0] rfl) hq
      · intro x1 x2 x3 x4 x7 x8 w5 w9 r0 z H locs ls hr0 hM hl hq
        have hq : cm_X0_bringLeast_3 vl K (c_X0_bringLeast vl K k) x1 x2 x3 x4 x7 x8 w5 w9 r0 z = some (r, z1) := hq
        unfold cm_X0_bringLeast_3 at hq
        refine lv_iload hx hb dcX0_bringLeast_64 (lv_at hl 6 rfl) ?_
        refine lv_istore_n (lv' := [(3, .int x7), (0, .ref (u r0)), (1, .int x1), (2, .int x2), (4, .int x4), (5, .long w5), (7, .int x7), (8, .int x8), (9, .long w9)]) hx hb dcX0_bringLeast_66 rfl hl (by decide) rfl (fun ls hl => ?_)
        refine lv_iload hx hb dcX0_bringLeast_67 (lv_at hl 7 rfl) ?_
        refine lv_istore (lv' := [(4, .int x8), (3, .int x7), (0, .ref (u r0)), (1, .int x1), (2, .int x2), (5, .long w5), (7, .int x7), (8, .int x8), (9, .long w9)]) hx hb dcX0_bringLeast_69 hl (by decide) rfl (fun ls hl => ?_)
        refine lv_lload hx hb dcX0_bringLeast_71 (lv_at hl 8 rfl) ?_
        refine lv_lstore (lv' := [(5, .long w9), (4, .int x8), (3, .int x7), (0, .ref (u r0)), (1, .int x1), (2, .int x2), (7, .int x7), (8, .int x8), (9, .long w9)]) hx hb dcX0_bringLeast_73 hl (by decide) rfl (fun ls hl => ?_)
        exact ih_4 x1 x2 x7 x8 x7 x8 w9 w9 r0 z H locs ls hr0 hM (lv_sub hl [3, 4, 5, 2, 1, 0, 6, 7, 8] rfl) hq
      · intro x1 x2 x3 x4 x7 x8 w5 w9 r0 z H locs ls hr0 hM hl hq
        have hq : cm_X0_bringLeast_4 vl K (c_X0_bringLeast vl K k) x1 x2 x3 x4 x7 x8 w5 w9 r0 z = some (r, z1) := hq
        unfold cm_X0_bringLeast_4 at hq
        refine lv_iinc (v := (x8 + 1)) (lv' := [(8, .int (x8 + 1)), (0, .ref (u r0)), (1, .int x1), (2, .int x2), (3, .int x3), (4, .int x4), (5, .long w5), (7, .int x7), (9, .long w9)]) hx hb dcX0_bringLeast_75 hl (k := 7) rfl rfl (by decide) rfl (fun ls hl => ?_)
        refine lv_goto (tgt := 20) hx hb dcX0_bringLeast_78 (by decide) ?_
        exact ih_2 x1 x2 x3 x4 x7 (x8 + 1) w5 0 r0 z H locs ls hr0 hM (lv_sub hl [1, 2, 3, 4, 5, 6, 7, 0] rfl) hq
      · intro x1 x2 x3 x4 x7 x8 w5 w9 r0 z H locs ls hr0 hM hl hq
        have hq : cm_X0_bringLeast_5 vl K (c_X0_bringLeast vl K k) x1 x2 x3 x4 x7 x8 w5 w9 r0 z = some (r, z1) := hq
        unfold cm_X0_bringLeast_5 at hq
        refine lv_iload hx hb dcX0_bringLeast_97 (lv_at hl 6 rfl) ?_
        refine lv_aload_n hx hb dcX0_bringLeast_99 rfl (lv_at hl 0 rfl) ?_
        refine vgX0_82 hx hb hT hown hK hM hr0 hq dcX0_bringLeast_100 (fun v4 hq => ?_)
        refine lv_icmp_ge (tgt := 152) hx hb dcX0_bringLeast_103 (by decide) (fun hc => ?_) (fun hc => ?_)
        · have hq := tw_it hq hc
          refine lv_iconst (v := 0) hx hb dcX0_bringLeast_152 (by decide) ?_
          refine lv_istore (lv' := [(7, .int 0), (0, .ref (u r0)), (1, .int x1), (2, .int x2), (3, .int x3), (4, .int x4), (5, .long w5)]) hx hb dcX0_bringLeast_153 hl (by decide) rfl (fun ls hl => ?_)
          exact ih_6 x1 x2 x3 x4 0 0 w5 0 r0 z H locs ls hr0 hM (lv_sub hl [1, 2, 3, 4, 5, 6, 0] rfl) hq
        · have hq := tw_if hq hc
          refine lv_aload_n hx hb dcX0_bringLeast_106 rfl (lv_at hl 0 rfl) ?_
          refine vgX0_17 hx hb hT hown hK hM hr0 dcX0_bringLeast_107 ?_
          refine lv_iload_n hx hb dcX0_bringLeast_110 rfl (lv_at hl 1 rfl) ?_
          refine ca_X0_2 hx hb hK hM hr0 hq dcX0_bringLeast_111 (fun j5 hj5 hq => ?_)
          refine lv_iload hx hb dcX0_bringLeast_112 (lv_at hl 6 rfl) ?_
          refine uw_lald cX_ok hx hb hK hM (cg_X0_2 hr0 hj5) hq dcX0_bringLeast_114 (fun v6 hq => ?_)
          refine lv_lstore (lv' := [(8, .long v6), (0, .ref (u r0)), (1, .int x1), (2, .int x2), (3, .int x3), (4, .int x4), (5, .long w5), (7, .int x7)]) hx hb dcX0_bringLeast_115 hl (by decide) rfl (fun ls hl => ?_)
          refine lv_aload_n hx hb dcX0_bringLeast_117 rfl (lv_at hl 1 rfl) ?_
          refine vgX0_17 hx hb hT hown hK hM hr0 dcX0_bringLeast_118 ?_
          refine lv_iload_n hx hb dcX0_bringLeast_121 rfl (lv_at hl 2 rfl) ?_
          refine ca_X0_2 hx hb hK hM hr0 hq dcX0_bringLeast_122 (fun j7 hj7 hq => ?_)
          refine lv_iload hx hb dcX0_bringLeast_123 (lv_at hl 7 rfl) ?_
          refine lv_aload_n hx hb dcX0_bringLeast_125 rfl (lv_at hl 1 rfl) ?_
          refine vgX0_17 hx hb hT hown hK hM hr0 dcX0_bringLeast_126 ?_
          refine lv_iload_n hx hb dcX0_bringLeast_129 rfl (lv_at hl 4 rfl) ?_
          refine ca_X0_2 hx hb hK hM hr0 hq dcX0_bringLeast_130 (fun j8 hj8 hq => ?_)
          refine lv_iload hx hb dcX0_bringLeast_131 (lv_at hl 7 rfl) ?_
          refine uw_lald cX_ok hx hb hK hM (cg_X0_2 hr0 hj8) hq dcX0_bringLeast_133 (fun v9 hq => ?_)
          refine uw_last cX_ok hU hx hb hK hM (cg_X0_2 hr0 hj7) hq dcX0_bringLeast_134 (fun z10 H locs hM hq => ?_)
          refine lv_aload_n hx hb dcX0_bringLeast_135 rfl (lv_at hl 1 rfl) ?_
          refine vgX0_17 hx hb hT hown hK hM hr0 dcX0_bringLeast_136 ?_
          refine lv_iload_n hx hb dcX0_bringLeast_139 rfl (lv_at hl 4 rfl) ?_
          refine ca_X0_2 hx hb hK hM hr0 hq dcX0_bringLeast_140 (fun j11 hj11 hq => ?_)
          refine lv_iload hx hb dcX0_bringLeast_141 (lv_at hl 7 rfl) ?_
          refine lv_lload hx hb dcX0_bringLeast_143 (lv_at hl 0 rfl) ?_
          refine uw_last cX_ok hU hx hb hK hM (cg_X0_2 hr0 hj11) hq dcX0_bringLeast_145 (fun z12 H locs hM hq => ?_)
          refine lv_iinc (v := (x7 + 1)) (lv' := [(7, .int (x7 + 1)), (8, .long v6), (0, .ref (u r0)), (1, .int x1), (2, .int x2), (3, .int x3), (4, .int x4), (5, .long w5)]) hx hb dcX0_bringLeast_146 hl (k := 7) rfl rfl (by decide) rfl (fun ls hl => ?_)
          refine lv_goto (tgt := 97) hx hb dcX0_bringLeast_149 (by decide) ?_
          exact ih_5 x1 x2 x3 x4 (x7 + 1) 0 w5 0 r0 z12 H locs ls hr0 hM (lv_sub hl [2, 3, 4, 5, 6, 7, 0] rfl) hq
      · intro x1 x2 x3 x4 x7 x8 w5 w9 r0 z H locs ls hr0 hM hl hq
        have hq : cm_X0_bringLeast_6 vl K (c_X0_bringLeast vl K k) x1 x2 x3 x4 x7 x8 w5 w9 r0 z = some (r, z1) := hq
        unfold cm_X0_bringLeast_6 at hq
        refine lv_iload hx hb dcX0_bringLeast_155 (lv_at hl 6 rfl) ?_
        refine lv_iload_n hx hb dcX0_bringLeast_157 rfl (lv_at hl 2 rfl) ?_
        refine lv_icmp_ge (tgt := 209) hx hb dcX0_bringLeast_158 (by decide) (fun hc => ?_) (fun hc => ?_)
        · have hq := tw_it hq hc
          refine lv_iconst (v := 1) hx hb dcX0_bringLeast_209 (by decide) ?_
          obtain ⟨hz, hq⟩ := tw_gZ hq
          exact cw_zret hx hb hr hlocks hM hz hq hQQ dcX0_bringLeast_210
        · have hq := tw_if hq hc
          refine lv_aload_n hx hb dcX0_bringLeast_161 rfl (lv_at hl 0 rfl) ?_
          refine vgX0_17 hx hb hT hown hK hM hr0 dcX0_bringLeast_162 ?_
          refine lv_iload hx hb dcX0_bringLeast_165 (lv_at hl 6 rfl) ?_
          refine ca_X0_2 hx hb hK hM hr0 hq dcX0_bringLeast_167 (fun j13 hj13 hq => ?_)
          refine lv_iload_n hx hb dcX0_bringLeast_168 rfl (lv_at hl 1 rfl) ?_
          refine uw_lald cX_ok hx hb hK hM (cg_X0_2 hr0 hj13) hq dcX0_bringLeast_169 (fun v14 hq => ?_)
          refine lv_lstore (lv' := [(8, .long v14), (0, .ref (u r0)), (1, .int x1), (2, .int x2), (3, .int x3), (4, .int x4), (5, .long w5), (7, .int x7)]) hx hb dcX0_bringLeast_170 hl (by decide) rfl (fun ls hl => ?_)
          refine lv_aload_n hx hb dcX0_bringLeast_172 rfl (lv_at hl 1 rfl) ?_
          refine vgX0_17 hx hb hT hown hK hM hr0 dcX0_bringLeast_173 ?_
          refine lv_iload hx hb dcX0_bringLeast_176 (lv_at hl 7 rfl) ?_
          refine ca_X0_2 hx hb hK hM hr0 hq dcX0_bringLeast_178 (fun j15 hj15 hq => ?_)
          refine lv_iload_n hx hb dcX0_bringLeast_179 rfl (lv_at hl 2 rfl) ?_
          refine lv_aload_n hx hb dcX0_bringLeast_180 rfl (lv_at hl 1 rfl) ?_
          refine vgX0_17 hx hb hT hown hK hM hr0 dcX0_bringLeast_181 ?_
          refine lv_iload hx hb dcX0_bringLeast_184 (lv_at hl 7 rfl) ?_
          refine ca_X0_2 hx hb hK hM hr0 hq dcX0_bringLeast_186 (fun j16 hj16 hq => ?_)
          refine lv_iload hx hb dcX0_bringLeast_187 (lv_at hl 5 rfl) ?_
          refine uw_lald cX_ok hx hb hK hM (cg_X0_2 hr0 hj16) hq dcX0_bringLeast_189 (fun v17 hq => ?_)
          refine uw_last cX_ok hU hx hb hK hM (cg_X0_2 hr0 hj15) hq dcX0_bringLeast_190 (fun z18 H locs hM hq => ?_)
          refine lv_aload_n hx hb dcX0_bringLeast_191 rfl (lv_at hl 1 rfl) ?_
          refine vgX0_17 hx hb hT hown hK hM hr0 dcX0_bringLeast_192 ?_
          refine lv_iload hx hb dcX0_bringLeast_195 (lv_at hl 7 rfl) ?_
          refine ca_X0_2 hx hb hK hM hr0 hq dcX0_bringLeast_197 (fun j19 hj19 hq => ?_)
          refine lv_iload hx hb dcX0_bringLeast_198 (lv_at hl 5 rfl) ?_
          refine lv_lload hx hb dcX0_bringLeast_200 (lv_at hl 0 rfl) ?_
          refine uw_last cX_ok hU hx hb hK hM (cg_X0_2 hr0 hj19) hq dcX0_bringLeast_202 (fun z20 H locs hM hq => ?_)
          refine lv_iinc (v := (x7 + 1)) (lv' := [(7, .int (x7 + 1)), (8, .long v14), (0, .ref (u r0)), (1, .int x1), (2, .int x2), (3, .int x3), (4, .int x4), (5, .long w5)]) hx hb dcX0_bringLeast_203 hl (k := 7) rfl rfl (by decide) rfl (fun ls hl => ?_)
          refine lv_goto (tgt := 155) hx hb dcX0_bringLeast_206 (by decide) ?_
          exact ih_6 x1 x2 x3 x4 (x7 + 1) 0 w5 0 r0 z20 H locs ls hr0 hM (lv_sub hl [2, 3, 4, 5, 6, 7, 0] rfl) hq
  exact (key K).1 x1 x2 0 0 0 0 0 0 r0 z s.heap [] ls hr0 hM (lv_sub hl [0, 1, 2] rfl) hq
theorem dcX0_clearCross_0 : decode cX0_clearCross 0 = .ok (.aload_n 0, 1) := dw_at cX0_clearCross_k0 (p := 0) rfl (by decide +kernel)
theorem dcX0_clearCross_1 : decode cX0_clearCross 1 = .ok (.getfield 17, 3) := dw_at cX0_clearCross_k0 (p := 1) rfl (by decide +kernel)
theorem dcX0_clearCross_4 : decode cX0_clearCross 4 = .ok (.iload_n 1, 1) := dw_at cX0_clearCross_k0 (p := 4) rfl (by decide +kernel)
theorem dcX0_clearCross_5 : decode cX0_clearCross 5 = .ok (.aaload, 1) := dw_at cX0_clearCross_k0 (p := 5) rfl (by decide +kernel)
theorem dcX0_clearCross_6 : decode cX0_clearCross 6 = .ok (.iload_n 1, 1) := dw_at cX0_clearCross_k0 (p := 6) rfl (by decide +kernel)
theorem dcX0_clearCross_7 : decode cX0_clearCross 7 = .ok (.laload, 1) := dw_at cX0_clearCross_k0 (p := 7) rfl (by decide +kernel)
theorem dcX0_clearCross_8 : decode cX0_clearCross 8 = .ok (.lstore_n 3, 1) := dw_at cX0_clearCross_k0 (p := 8) rfl (by decide +kernel)
theorem dcX0_clearCross_9 : decode cX0_clearCross 9 = .ok (.lload_n 3, 1) := dw_at cX0_clearCross_k0 (p := 9) rfl (by decide +kernel)
theorem dcX0_clearCross_10 : decode cX0_clearCross 10 = .ok (.lconst 0, 1) := dw_at cX0_clearCross_k0 (p := 10) rfl (by decide +kernel)
theorem dcX0_clearCross_11 : decode cX0_clearCross 11 = .ok (.lcmp, 1) := dw_at cX0_clearCross_k0 (p := 11) rfl (by decide +kernel)
theorem dcX0_clearCross_12 : decode cX0_clearCross 12 = .ok (.ifCond .ne 5, 3) := dw_at cX0_clearCross_k0 (p := 12) rfl (by decide +kernel)
theorem dcX0_clearCross_15 : decode cX0_clearCross 15 = .ok (.iconst 0, 1) := dw_at cX0_clearCross_k0 (p := 15) rfl (by decide +kernel)
theorem dcX0_clearCross_16 : decode cX0_clearCross 16 = .ok (.ireturn, 1) := dw_at cX0_clearCross_k0 (p := 16) rfl (by decide +kernel)
theorem dcX0_clearCross_17 : decode cX0_clearCross 17 = .ok (.iconst 1, 1) := dw_at cX0_clearCross_k0 (p := 17) rfl (by decide +kernel)
theorem dcX0_clearCross_18 : decode cX0_clearCross 18 = .ok (.istore 5, 2) := dw_at cX0_clearCross_k0 (p := 18) rfl (by decide +kernel)
theorem dcX0_clearCross_20 : decode cX0_clearCross 20 = .ok (.iload_n 1, 1) := dw_at cX0_clearCross_k0 (p := 20) rfl (by decide +kernel)
theorem dcX0_clearCross_21 : decode cX0_clearCross 21 = .ok (.iconst 1, 1) := dw_at cX0_clearCross_k0 (p := 21) rfl (by decide +kernel)
theorem dcX0_clearCross_22 : decode cX0_clearCross 22 = .ok (.iadd, 1) := dw_at cX0_clearCross_k0 (p := 22) rfl (by decide +kernel)
theorem dcX0_clearCross_23 : decode cX0_clearCross 23 = .ok (.istore 6, 2) := dw_at cX0_clearCross_k0 (p := 23) rfl (by decide +kernel)
theorem dcX0_clearCross_25 : decode cX0_clearCross 25 = .ok (.iload 6, 2) := dw_at cX0_clearCross_k1 (p := 0) rfl (by decide +kernel)
theorem dcX0_clearCross_27 : decode cX0_clearCross 27 = .ok (.iload_n 2, 1) := dw_at cX0_clearCross_k1 (p := 2) rfl (by decide +kernel)
theorem dcX0_clearCross_28 : decode cX0_clearCross 28 = .ok (.if_icmp .ge 96, 3) := dw_at cX0_clearCross_k1 (p := 3) rfl (by decide +kernel)
theorem dcX0_clearCross_31 : decode cX0_clearCross 31 = .ok (.aload_n 0, 1) := dw_at cX0_clearCross_k1 (p := 6) rfl (by decide +kernel)
theorem dcX0_clearCross_32 : decode cX0_clearCross 32 = .ok (.getfield 17, 3) := dw_at cX0_clearCross_k1 (p := 7) rfl (by decide +kernel)
theorem dcX0_clearCross_35 : decode cX0_clearCross 35 = .ok (.iload 6, 2) := dw_at cX0_clearCross_k1 (p := 10) rfl (by decide +kernel)
theorem dcX0_clearCross_37 : decode cX0_clearCross 37 = .ok (.aaload, 1) := dw_at cX0_clearCross_k1 (p := 12) rfl (by decide +kernel)
theorem dcX0_clearCross_38 : decode cX0_clearCross 38 = .ok (.iload_n 1, 1) := dw_at cX0_clearCross_k1 (p := 13) rfl (by decide +kernel)
theorem dcX0_clearCross_39 : decode cX0_clearCross 39 = .ok (.laload, 1) := dw_at cX0_clearCross_k1 (p := 14) rfl (by decide +kernel)
theorem dcX0_clearCross_40 : decode cX0_clearCross 40 = .ok (.lload_n 3, 1) := dw_at cX0_clearCross_k1 (p := 15) rfl (by decide +kernel)
theorem dcX0_clearCross_41 : decode cX0_clearCross 41 = .ok (.ldiv, 1) := dw_at cX0_clearCross_k1 (p := 16) rfl (by decide +kernel)
theorem dcX0_clearCross_42 : decode cX0_clearCross 42 = .ok (.lstore 7, 2) := dw_at cX0_clearCross_k1 (p := 17) rfl (by decide +kernel)
theorem dcX0_clearCross_44 : decode cX0_clearCross 44 = .ok (.iload_n 1, 1) := dw_at cX0_clearCross_k1 (p := 19) rfl (by decide +kernel)
theorem dcX0_clearCross_45 : decode cX0_clearCross 45 = .ok (.istore 9, 2) := dw_at cX0_clearCross_k1 (p := 20) rfl (by decide +kernel)
theorem dcX0_clearCross_47 : decode cX0_clearCross 47 = .ok (.iload 9, 2) := dw_at cX0_clearCross_k1 (p := 22) rfl (by decide +kernel)
theorem dcX0_clearCross_49 : decode cX0_clearCross 49 = .ok (.aload_n 0, 1) := dw_at cX0_clearCross_k2 (p := 0) rfl (by decide +kernel)
theorem dcX0_clearCross_50 : decode cX0_clearCross 50 = .ok (.getfield 82, 3) := dw_at cX0_clearCross_k2 (p := 1) rfl (by decide +kernel)
theorem dcX0_clearCross_53 : decode cX0_clearCross 53 = .ok (.if_icmp .ge 41, 3) := dw_at cX0_clearCross_k2 (p := 4) rfl (by decide +kernel)
theorem dcX0_clearCross_56 : decode cX0_clearCross 56 = .ok (.lload 7, 2) := dw_at cX0_clearCross_k2 (p := 7) rfl (by decide +kernel)
theorem dcX0_clearCross_58 : decode cX0_clearCross 58 = .ok (.lconst 0, 1) := dw_at cX0_clearCross_k2 (p := 9) rfl (by decide +kernel)
theorem dcX0_clearCross_59 : decode cX0_clearCross 59 = .ok (.lcmp, 1) := dw_at cX0_clearCross_k2 (p := 10) rfl (by decide +kernel)
theorem dcX0_clearCross_60 : decode cX0_clearCross 60 = .ok (.ifCond .eq 34, 3) := dw_at cX0_clearCross_k2 (p := 11) rfl (by decide +kernel)
theorem dcX0_clearCross_63 : decode cX0_clearCross 63 = .ok (.aload_n 0, 1) := dw_at cX0_clearCross_k2 (p := 14) rfl (by decide +kernel)
theorem dcX0_clearCross_64 : decode cX0_clearCross 64 = .ok (.getfield 17, 3) := dw_at cX0_clearCross_k2 (p := 15) rfl (by decide +kernel)
theorem dcX0_clearCross_67 : decode cX0_clearCross 67 = .ok (.iload 6, 2) := dw_at cX0_clearCross_k2 (p := 18) rfl (by decide +kernel)
theorem dcX0_clearCross_69 : decode cX0_clearCross 69 = .ok (.aaload, 1) := dw_at cX0_clearCross_k2 (p := 20) rfl (by decide +kernel)
theorem dcX0_clearCross_70 : decode cX0_clearCross 70 = .ok (.iload 9, 2) := dw_at cX0_clearCross_k2 (p := 21) rfl (by decide +kernel)
theorem dcX0_clearCross_72 : decode cX0_clearCross 72 = .ok (.dup2, 1) := dw_at cX0_clearCross_k2 (p := 23) rfl (by decide +kernel)
theorem dcX0_clearCross_73 : decode cX0_clearCross 73 = .ok (.laload, 1) := dw_at cX0_clearCross_k3 (p := 0) rfl (by decide +kernel)
theorem dcX0_clearCross_74 : decode cX0_clearCross 74 = .ok (.lload 7, 2) := dw_at cX0_clearCross_k3 (p := 1) rfl (by decide +kernel)
theorem dcX0_clearCross_76 : decode cX0_clearCross 76 = .ok (.aload_n 0, 1) := dw_at cX0_clearCross_k3 (p := 3) rfl (by decide +kernel)
theorem dcX0_clearCross_77 : decode cX0_clearCross 77 = .ok (.getfield 17, 3) := dw_at cX0_clearCross_k3 (p := 4) rfl (by decide +kernel)
theorem dcX0_clearCross_80 : decode cX0_clearCross 80 = .ok (.iload_n 1, 1) := dw_at cX0_clearCross_k3 (p := 7) rfl (by decide +kernel)
theorem dcX0_clearCross_81 : decode cX0_clearCross 81 = .ok (.aaload, 1) := dw_at cX0_clearCross_k3 (p := 8) rfl (by decide +kernel)
theorem dcX0_clearCross_82 : decode cX0_clearCross 82 = .ok (.iload 9, 2) := dw_at cX0_clearCross_k3 (p := 9) rfl (by decide +kernel)
theorem dcX0_clearCross_84 : decode cX0_clearCross 84 = .ok (.laload, 1) := dw_at cX0_clearCross_k3 (p := 11) rfl (by decide +kernel)
theorem dcX0_clearCross_85 : decode cX0_clearCross 85 = .ok (.lmul, 1) := dw_at cX0_clearCross_k3 (p := 12) rfl (by decide +kernel)
theorem dcX0_clearCross_86 : decode cX0_clearCross 86 = .ok (.lsub, 1) := dw_at cX0_clearCross_k3 (p := 13) rfl (by decide +kernel)
theorem dcX0_clearCross_87 : decode cX0_clearCross 87 = .ok (.lastore, 1) := dw_at cX0_clearCross_k3 (p := 14) rfl (by decide +kernel)
theorem dcX0_clearCross_88 : decode cX0_clearCross 88 = .ok (.iinc 9 1, 3) := dw_at cX0_clearCross_k3 (p := 15) rfl (by decide +kernel)
theorem dcX0_clearCross_91 : decode cX0_clearCross 91 = .ok (.goto (-44), 3) := dw_at cX0_clearCross_k3 (p := 18) rfl (by decide +kernel)
theorem dcX0_clearCross_94 : decode cX0_clearCross 94 = .ok (.iload 5, 2) := dw_at cX0_clearCross_k3 (p := 21) rfl (by decide +kernel)
theorem dcX0_clearCross_96 : decode cX0_clearCross 96 = .ok (.aload_n 0, 1) := dw_at cX0_clearCross_k3 (p := 23) rfl (by decide +kernel)
theorem dcX0_clearCross_97 : decode cX0_clearCross 97 = .ok (.getfield 17, 3) := dw_at cX0_clearCross_k4 (p := 0) rfl (by decide +kernel)
theorem dcX0_clearCross_100 : decode cX0_clearCross 100 = .ok (.iload 6, 2) := dw_at cX0_clearCross_k4 (p := 3) rfl (by decide +kernel)
theorem dcX0_clearCross_102 : decode cX0_clearCross 102 = .ok (.aaload, 1) := dw_at cX0_clearCross_k4 (p := 5) rfl (by decide +kernel)
theorem dcX0_clearCross_103 : decode cX0_clearCross 103 = .ok (.iload_n 1, 1) := dw_at cX0_clearCross_k4 (p := 6) rfl (by decide +kernel)
theorem dcX0_clearCross_104 : decode cX0_clearCross 104 = .ok (.laload, 1) := dw_at cX0_clearCross_k4 (p := 7) rfl (by decide +kernel)
theorem dcX0_clearCross_105 : decode cX0_clearCross 105 = .ok (.lconst 0, 1) := dw_at cX0_clearCross_k4 (p := 8) rfl (by decide +kernel)
theorem dcX0_clearCross_106 : decode cX0_clearCross 106 = .ok (.lcmp, 1) := dw_at cX0_clearCross_k4 (p := 9) rfl (by decide +kernel)
theorem dcX0_clearCross_107 : decode cX0_clearCross 107 = .ok (.ifCond .ne 7, 3) := dw_at cX0_clearCross_k4 (p := 10) rfl (by decide +kernel)
theorem dcX0_clearCross_110 : decode cX0_clearCross 110 = .ok (.iconst 1, 1) := dw_at cX0_clearCross_k4 (p := 13) rfl (by decide +kernel)
theorem dcX0_clearCross_111 : decode cX0_clearCross 111 = .ok (.goto 4, 3) := dw_at cX0_clearCross_k4 (p := 14) rfl (by decide +kernel)
theorem dcX0_clearCross_114 : decode cX0_clearCross 114 = .ok (.iconst 0, 1) := dw_at cX0_clearCross_k4 (p := 17) rfl (by decide +kernel)
theorem dcX0_clearCross_115 : decode cX0_clearCross 115 = .ok (.iand, 1) := dw_at cX0_clearCross_k4 (p := 18) rfl (by decide +kernel)
theorem dcX0_clearCross_116 : decode cX0_clearCross 116 = .ok (.istore 5, 2) := dw_at cX0_clearCross_k4 (p := 19) rfl (by decide +kernel)
theorem dcX0_clearCross_118 : decode cX0_clearCross 118 = .ok (.iinc 6 1, 3) := dw_at cX0_clearCross_k4 (p := 21) rfl (by decide +kernel)
theorem dcX0_clearCross_121 : decode cX0_clearCross 121 = .ok (.goto (-96), 3) := dw_at cX0_clearCross_k5 (p := 0) rfl (by decide +kernel)
theorem dcX0_clearCross_124 : decode cX0_clearCross 124 = .ok (.iload_n 1, 1) := dw_at cX0_clearCross_k5 (p := 3) rfl (by decide +kernel)
theorem dcX0_clearCross_125 : decode cX0_clearCross 125 = .ok (.iconst 1, 1) := dw_at cX0_clearCross_k5 (p := 4) rfl (by decide +kernel)
theorem dcX0_clearCross_126 : decode cX0_clearCross 126 = .ok (.iadd, 1) := dw_at cX0_clearCross_k5 (p := 5) rfl (by decide +kernel)
theorem dcX0_clearCross_127 : decode cX0_clearCross 127 = .ok (.istore 6, 2) := dw_at cX0_clearCross_k5 (p := 6) rfl (by decide +kernel)
theorem dcX0_clearCross_129 : decode cX0_clearCross 129 = .ok (.iload 6, 2) := dw_at cX0_clearCross_k5 (p := 8) rfl (by decide +kernel)
theorem dcX0_clearCross_131 : decode cX0_clearCross 131 = .ok (.aload_n 0, 1) := dw_at cX0_clearCross_k5 (p := 10) rfl (by decide +kernel)
theorem dcX0_clearCross_132 : decode cX0_clearCross 132 = .ok (.getfield 82, 3) := dw_at cX0_clearCross_k5 (p := 11) rfl (by decide +kernel)
theorem dcX0_clearCross_135 : decode cX0_clearCross 135 = .ok (.if_icmp .ge 93, 3) := dw_at cX0_clearCross_k5 (p := 14) rfl (by decide +kernel)
theorem dcX0_clearCross_138 : decode cX0_clearCross 138 = .ok (.aload_n 0, 1) := dw_at cX0_clearCross_k5 (p := 17) rfl (by decide +kernel)
theorem dcX0_clearCross_139 : decode cX0_clearCross 139 = .ok (.getfield 17, 3) := dw_at cX0_clearCross_k5 (p := 18) rfl (by decide +kernel)
theorem dcX0_clearCross_142 : decode cX0_clearCross 142 = .ok (.iload_n 1, 1) := dw_at cX0_clearCross_k5 (p := 21) rfl (by decide +kernel)
theorem dcX0_clearCross_143 : decode cX0_clearCross 143 = .ok (.aaload, 1) := dw_at cX0_clearCross_k5 (p := 22) rfl (by decide +kernel)
theorem dcX0_clearCross_144 : decode cX0_clearCross 144 = .ok (.iload 6, 2) := dw_at cX0_clearCross_k5 (p := 23) rfl (by decide +kernel)
theorem dcX0_clearCross_146 : decode cX0_clearCross 146 = .ok (.laload, 1) := dw_at cX0_clearCross_k6 (p := 0) rfl (by decide +kernel)
theorem dcX0_clearCross_147 : decode cX0_clearCross 147 = .ok (.lload_n 3, 1) := dw_at cX0_clearCross_k6 (p := 1) rfl (by decide +kernel)
theorem dcX0_clearCross_148 : decode cX0_clearCross 148 = .ok (.ldiv, 1) := dw_at cX0_clearCross_k6 (p := 2) rfl (by decide +kernel)
theorem dcX0_clearCross_149 : decode cX0_clearCross 149 = .ok (.lstore 7, 2) := dw_at cX0_clearCross_k6 (p := 3) rfl (by decide +kernel)
theorem dcX0_clearCross_151 : decode cX0_clearCross 151 = .ok (.iload_n 1, 1) := dw_at cX0_clearCross_k6 (p := 5) rfl (by decide +kernel)
theorem dcX0_clearCross_152 : decode cX0_clearCross 152 = .ok (.istore 9, 2) := dw_at cX0_clearCross_k6 (p := 6) rfl (by decide +kernel)
theorem dcX0_clearCross_154 : decode cX0_clearCross 154 = .ok (.iload 9, 2) := dw_at cX0_clearCross_k6 (p := 8) rfl (by decide +kernel)
theorem dcX0_clearCross_156 : decode cX0_clearCross 156 = .ok (.iload_n 2, 1) := dw_at cX0_clearCross_k6 (p := 10) rfl (by decide +kernel)
theorem dcX0_clearCross_157 : decode cX0_clearCross 157 = .ok (.if_icmp .ge 41, 3) := dw_at cX0_clearCross_k6 (p := 11) rfl (by decide +kernel)
theorem dcX0_clearCross_160 : decode cX0_clearCross 160 = .ok (.lload 7, 2) := dw_at cX0_clearCross_k6 (p := 14) rfl (by decide +kernel)
theorem dcX0_clearCross_162 : decode cX0_clearCross 162 = .ok (.lconst 0, 1) := dw_at cX0_clearCross_k6 (p := 16) rfl (by decide +kernel)
theorem dcX0_clearCross_163 : decode cX0_clearCross 163 = .ok (.lcmp, 1) := dw_at cX0_clearCross_k6 (p := 17) rfl (by decide +kernel)
theorem dcX0_clearCross_164 : decode cX0_clearCross 164 = .ok (.ifCond .eq 34, 3) := dw_at cX0_clearCross_k6 (p := 18) rfl (by decide +kernel)
theorem dcX0_clearCross_167 : decode cX0_clearCross 167 = .ok (.aload_n 0, 1) := dw_at cX0_clearCross_k6 (p := 21) rfl (by decide +kernel)
theorem dcX0_clearCross_168 : decode cX0_clearCross 168 = .ok (.getfield 17, 3) := dw_at cX0_clearCross_k6 (p := 22) rfl (by decide +kernel)
theorem dcX0_clearCross_171 : decode cX0_clearCross 171 = .ok (.iload 9, 2) := dw_at cX0_clearCross_k7 (p := 0) rfl (by decide +kernel)
theorem dcX0_clearCross_173 : decode cX0_clearCross 173 = .ok (.aaload, 1) := dw_at cX0_clearCross_k7 (p := 2) rfl (by decide +kernel)
theorem dcX0_clearCross_174 : decode cX0_clearCross 174 = .ok (.iload 6, 2) := dw_at cX0_clearCross_k7 (p := 3) rfl (by decide +kernel)
theorem dcX0_clearCross_176 : decode cX0_clearCross 176 = .ok (.dup2, 1) := dw_at cX0_clearCross_k7 (p := 5) rfl (by decide +kernel)
theorem dcX0_clearCross_177 : decode cX0_clearCross 177 = .ok (.laload, 1) := dw_at cX0_clearCross_k7 (p := 6) rfl (by decide +kernel)
theorem dcX0_clearCross_178 : decode cX0_clearCross 178 = .ok (.lload 7, 2) := dw_at cX0_clearCross_k7 (p := 7) rfl (by decide +kernel)
theorem dcX0_clearCross_180 : decode cX0_clearCross 180 = .ok (.aload_n 0, 1) := dw_at cX0_clearCross_k7 (p := 9) rfl (by decide +kernel)
theorem dcX0_clearCross_181 : decode cX0_clearCross 181 = .ok (.getfield 17, 3) := dw_at cX0_clearCross_k7 (p := 10) rfl (by decide +kernel)
theorem dcX0_clearCross_184 : decode cX0_clearCross 184 = .ok (.iload 9, 2) := dw_at cX0_clearCross_k7 (p := 13) rfl (by decide +kernel)
theorem dcX0_clearCross_186 : decode cX0_clearCross 186 = .ok (.aaload, 1) := dw_at cX0_clearCross_k7 (p := 15) rfl (by decide +kernel)
theorem dcX0_clearCross_187 : decode cX0_clearCross 187 = .ok (.iload_n 1, 1) := dw_at cX0_clearCross_k7 (p := 16) rfl (by decide +kernel)
theorem dcX0_clearCross_188 : decode cX0_clearCross 188 = .ok (.laload, 1) := dw_at cX0_clearCross_k7 (p := 17) rfl (by decide +kernel)
theorem dcX0_clearCross_189 : decode cX0_clearCross 189 = .ok (.lmul, 1) := dw_at cX0_clearCross_k7 (p := 18) rfl (by decide +kernel)
theorem dcX0_clearCross_190 : decode cX0_clearCross 190 = .ok (.lsub, 1) := dw_at cX0_clearCross_k7 (p := 19) rfl (by decide +kernel)
theorem dcX0_clearCross_191 : decode cX0_clearCross 191 = .ok (.lastore, 1) := dw_at cX0_clearCross_k7 (p := 20) rfl (by decide +kernel)
theorem dcX0_clearCross_192 : decode cX0_clearCross 192 = .ok (.iinc 9 1, 3) := dw_at cX0_clearCross_k7 (p := 21) rfl (by decide +kernel)
theorem dcX0_clearCross_195 : decode cX0_clearCross 195 = .ok (.goto (-41), 3) := dw_at cX0_clearCross_k8 (p := 0) rfl (by decide +kernel)
theorem dcX0_clearCross_198 : decode cX0_clearCross 198 = .ok (.iload 5, 2) := dw_at cX0_clearCross_k8 (p := 3) rfl (by decide +kernel)
theorem dcX0_clearCross_200 : decode cX0_clearCross 200 = .ok (.aload_n 0, 1) := dw_at cX0_clearCross_k8 (p := 5) rfl (by decide +kernel)
theorem dcX0_clearCross_201 : decode cX0_clearCross 201 = .ok (.getfield 17, 3) := dw_at cX0_clearCross_k8 (p := 6) rfl (by decide +kernel)
theorem dcX0_clearCross_204 : decode cX0_clearCross 204 = .ok (.iload_n 1, 1) := dw_at cX0_clearCross_k8 (p := 9) rfl (by decide +kernel)
theorem dcX0_clearCross_205 : decode cX0_clearCross 205 = .ok (.aaload, 1) := dw_at cX0_clearCross_k8 (p := 10) rfl (by decide +kernel)
theorem dcX0_clearCross_206 : decode cX0_clearCross 206 = .ok (.iload 6, 2) := dw_at cX0_clearCross_k8 (p := 11) rfl (by decide +kernel)
theorem dcX0_clearCross_208 : decode cX0_clearCross 208 = .ok (.laload, 1) := dw_at cX0_clearCross_k8 (p := 13) rfl (by decide +kernel)
theorem dcX0_clearCross_209 : decode cX0_clearCross 209 = .ok (.lconst 0, 1) := dw_at cX0_clearCross_k8 (p := 14) rfl (by decide +kernel)
theorem dcX0_clearCross_210 : decode cX0_clearCross 210 = .ok (.lcmp, 1) := dw_at cX0_clearCross_k8 (p := 15) rfl (by decide +kernel)
theorem dcX0_clearCross_211 : decode cX0_clearCross 211 = .ok (.ifCond .ne 7, 3) := dw_at cX0_clearCross_k8 (p := 16) rfl (by decide +kernel)
theorem dcX0_clearCross_214 : decode cX0_clearCross 214 = .ok (.iconst 1, 1) := dw_at cX0_clearCross_k8 (p := 19) rfl (by decide +kernel)
theorem dcX0_clearCross_215 : decode cX0_clearCross 215 = .ok (.goto 4, 3) := dw_at cX0_clearCross_k8 (p := 20) rfl (by decide +kernel)
theorem dcX0_clearCross_218 : decode cX0_clearCross 218 = .ok (.iconst 0, 1) := dw_at cX0_clearCross_k8 (p := 23) rfl (by decide +kernel)
theorem dcX0_clearCross_219 : decode cX0_clearCross 219 = .ok (.iand, 1) := dw_at cX0_clearCross_k9 (p := 0) rfl (by decide +kernel)
theorem dcX0_clearCross_220 : decode cX0_clearCross 220 = .ok (.istore 5, 2) := dw_at cX0_clearCross_k9 (p := 1) rfl (by decide +kernel)
theorem dcX0_clearCross_222 : decode cX0_clearCross 222 = .ok (.iinc 6 1, 3) := dw_at cX0_clearCross_k9 (p := 3) rfl (by decide +kernel)
theorem dcX0_clearCross_225 : decode cX0_clearCross 225 = .ok (.goto (-96), 3) := dw_at cX0_clearCross_k9 (p := 6) rfl (by decide +kernel)
theorem dcX0_clearCross_228 : decode cX0_clearCross 228 = .ok (.iload 5, 2) := dw_at cX0_clearCross_k9 (p := 9) rfl (by decide +kernel)
theorem dcX0_clearCross_230 : decode cX0_clearCross 230 = .ok (.ireturn, 1) := dw_at cX0_clearCross_k9 (p := 11) rfl (by decide +kernel)
def cm_X0_clearCross_0 (vl : Nat → Nat) (K : Nat) (go : Nat → Int32 → Int32 → Int32 → Int32 → Int32 → Int64 → Int64 → Nat → Int32 → Int32 → ow_MS → Option (Int32 × ow_MS)) (x1 : Int32) (x2 : Int32) (x5 : Int32) (x6 : Int32) (x9 : Int32) (w3 : Int64) (w7 : Int64) (r0 : Nat) (t0 : Int32) (t1 : Int32) (z : ow_MS) : Option (Int32 × ow_MS) :=
 crX 12 x1 fun j1 => crJ (cX vl) z (r0 + 1001 + j1) x1 fun v2 => (if (lg_cmp v2 0) = 0 then okZ 0 (some (0, z))
 else go 1 x1 x2 1 (x1 + 1) 0 v2 0 r0 0 0 z)
def cm_X0_clearCross_1 (vl : Nat → Nat) (K : Nat) (go : Nat → Int32 → Int32 → Int32 → Int32 → Int32 → Int64 → Int64 → Nat → Int32 → Int32 → ow_MS → Option (Int32 × ow_MS)) (x1 : Int32) (x2 : Int32) (x5 : Int32) (x6 : Int32) (x9 : Int32) (w3 : Int64) (w7 : Int64) (r0 : Nat) (t0 : Int32) (t1 : Int32) (z : ow_MS) : Option (Int32 × ow_MS) :=
 (if x2 ≤ x6 then go 5 x1 x2 x5 (x1 + 1) 0 w3 0 r0 0 0 z
 else crX 12 x6 fun j3 => crJ (cX vl) z (r0 + 1001 + j3) x1 fun v4 => nzJ w3 (go 2 x1 x2 x5 x6 x1 w3 (v4 / w3) r0 0 0 z))
def cm_X0_clearCross_2 (vl : Nat → Nat) (K : Nat) (go : Nat → Int32 → Int32 → Int32 → Int32 → Int32 → Int64 → Int64 → Nat → Int32 → Int32 → ow_MS → Option (Int32 × ow_MS)) (x1 : Int32) (x2 : Int32) (x5 : Int32) (x6 : Int32) (x9 : Int32) (w3 : Int64) (w7 : Int64) (r0 : Nat) (t0 : Int32) (t1 : Int32) (z : ow_MS) : Option (Int32 × ow_MS) :=
 rdF z (r0 + 2) fun v5 => (if v5 ≤ x9 then go 3 x1 x2 x5 x6 x9 w3 w7 r0 0 0 z
 else (if (lg_cmp w7 0) = 0 then go 3 x1 x2 x5 x6 x9 w3 w7 r0 0 0 z
 else crX 12 x6 fun j6 => crJ (cX vl) z (r0 + 1001 + j6) x9 fun v7 => crX 12 x1 fun j8 => crJ (cX vl) z (r0 + 1001 + j8) x9 fun v9 => ctJ (cX vl) z (r0 + 1001 + j6) x9 (v7 - (w7 * v9)) fun z10 => go 2 x1 x2 x5 x6 (x9 + 1) w3 w7 r0 0 0 z10))
def cm_X0_clearCross_3 (vl : Nat → Nat) (K : Nat) (go : Nat → Int32 → Int32 → Int32 → Int32 → Int32 → Int64 → Int64 → Nat → Int32 → Int32 → ow_MS → Option (Int32 × ow_MS)) (x1 : Int32) (x2 : Int32) (x5 : Int32) (x6 : Int32) (x9 : Int32) (w3 : Int64) (w7 : Int64) (r0 : Nat) (t0 : Int32) (t1 : Int32) (z : ow_MS) : Option (Int32 × ow_MS) :=
 crX 12 x6 fun j11 => crJ (cX vl) z (r0 + 1001 + j11) x1 fun v12 => (if (lg_cmp v12 0) = 0 then go 4 x1 x2 x5 x6 x9 w3 w7 r0 1 x5 z
 else go 4 x1 x2 x5 x6 x9 w3 w7 r0 0 x5 z)
def cm_X0_clearCross_4 (vl : Nat → Nat) (K : Nat) (go : Nat → Int32 → Int32 → Int32 → Int32 → Int32 → Int64 → Int64 → Nat → Int32 → Int32 → ow_MS → Option (Int32 × ow_MS)) (x1 : Int32) (x2 : Int32) (x5 : Int32) (x6 : Int32) (x9 : Int32) (w3 : Int64) (w7 : Int64) (r0 : Nat) (t0 : Int32) (t1 : Int32) (z : ow_MS) : Option (Int32 × ow_MS) :=
 go 1 x1 x2 (t1 &&& t0) (x6 + 1) 0 w3 0 r0 0 0 z
def cm_X0_clearCross_5 (vl : Nat → Nat) (K : Nat) (go : Nat → Int32 → Int32 → Int32 → Int32 → Int32 → Int64 → Int64 → Nat → Int32 → Int32 → ow_MS → Option (Int32 × ow_MS)) (x1 : Int32) (x2 : Int32) (x5 : Int32) (x6 : Int32) (x9 : Int32) (w3 : Int64) (w7 : Int64) (r0 : Nat) (t0 : Int32) (t1 : Int32) (z : ow_MS) : Option (Int32 × ow_MS) :=
 rdF z (r0 + 2) fun v13 => (if v13 ≤ x6 then okZ x5 (some (x5, z))
 else crX 12 x1 fun j14 => crJ (cX vl) z (r0 + 1001 + j14) x6 fun v15 => nzJ w3 (go 6 x1 x2 x5 x6 x1 w3 (v15 / w3) r0 0 0 z))
def cm_X0_clearCross_6 (vl : Nat → Nat) (K : Nat) (go : Nat → Int32 → Int32 → Int32 → Int32 → Int32 → Int64 → Int64 → Nat → Int32 → Int32 → ow_MS → Option (Int32 × ow_MS)) (x1 : Int32) (x2 : Int32) (x5 : Int32) (x6 : Int32) (x9 : Int32) (w3 : Int64) (w7 : Int64) (r0 : Nat) (t0 : Int32) (t1 : Int32) (z : ow_MS) : Option (Int32 × ow_MS) :=
 (if x2 ≤ x9 then go 7 x1 x2 x5 x6 x9 w3 w7 r0 0 0 z
 else (if (lg_cmp w7 0) = 0 then go 7 x1 x2 x5 x6 x9 w3 w7 r0 0 0 z
 else crX 12 x9 fun j16 => crJ (cX vl) z (r0 + 1001 + j16) x6 fun v17 => crX 12 x9 fun j18 => crJ (cX vl) z (r0 + 1001 + j18) x1 fun v19 => ctJ (cX vl) z (r0 + 1001 + j16) x6 (v17 - (w7 * v19)) fun z20 => go 6 x1 x2 x5 x6 (x9 + 1) w3 w7 r0 0 0 z20))
def cm_X0_clearCross_7 (vl : Nat → Nat) (K : Nat) (go : Nat → Int32 → Int32 → Int32 → Int32 → Int32 → Int64 → Int64 → Nat → Int32 → Int32 → ow_MS → Option (Int32 × ow_MS)) (x1 : Int32) (x2 : Int32) (x5 : Int32) (x6 : Int32) (x9 : Int32) (w3 : Int64) (w7 : Int64) (r0 : Nat) (t0 : Int32) (t1 : Int32) (z : ow_MS) : Option (Int32 × ow_MS) :=
 crX 12 x1 fun j21 => crJ (cX vl) z (r0 + 1001 + j21) x6 fun v22 => (if (lg_cmp v22 0) = 0 then go 8 x1 x2 x5 x6 x9 w3 w7 r0 1 x5 z
 else go 8 x1 x2 x5 x6 x9 w3 w7 r0 0 x5 z)
def cm_X0_clearCross_8 (vl : Nat → Nat) (K : Nat) (go : Nat → Int32 → Int32 → Int32 → Int32 → Int32 → Int64 → Int64 → Nat → Int32 → Int32 → ow_MS → Option (Int32 × ow_MS)) (x1 : Int32) (x2 : Int32) (x5 : Int32) (x6 : Int32) (x9 : Int32) (w3 : Int64) (w7 : Int64) (r0 : Nat) (t0 : Int32) (t1 : Int32) (z : ow_MS) : Option (Int32 × ow_MS) :=
 go 5 x1 x2 (t1 &&& t0) (x6 + 1) 0 w3 0 r0 0 0 z
def cb_X0_clearCross (vl : Nat → Nat) (K : Nat) (go : Nat → Int32 → Int32 → Int32 → Int32 → Int32 → Int64 → Int64 → Nat → Int32 → Int32 → ow_MS → Option (Int32 × ow_MS)) (L : Nat) (x1 : Int32) (x2 : Int32) (x5 : Int32) (x6 : Int32) (x9 : Int32) (w3 : Int64) (w7 : Int64) (r0 : Nat) (t0 : Int32) (t1 : Int32) (z : ow_MS) : Option (Int32 × ow_MS) := match L with
  | 0 => cm_X0_clearCross_0 vl K go x1 x2 x5 x6 x9 w3 w7 r0 t0 t1 z
  | 1 => cm_X0_clearCross_1 vl K go x1 x2 x5 x6 x9 w3 w7 r0 t0 t1 z
  | 2 => cm_X0_clearCross_2 vl K go x1 x2 x5 x6 x9 w3 w7 r0 t0 t1 z
  | 3 => cm_X0_clearCross_3 vl K go x1 x2 x5 x6 x9 w3 w7 r0 t0 t1 z
  | 4 => cm_X0_clearCross_4 vl K go x1 x2 x5 x6 x9 w3 w7 r0 t0 t1 z
  | 5 => cm_X0_clearCross_5 vl K go x1 x2 x5 x6 x9 w3 w7 r0 t0 t1 z
  | 6 => cm_X0_clearCross_6 vl K go x1 x2 x5 x6 x9 w3 w7 r0 t0 t1 z
  | 7 => cm_X0_clearCross_7 vl K go x1 x2 x5 x6 x9 w3 w7 r0 t0 t1 z
  | 8 => cm_X0_clearCross_8 vl K go x1 x2 x5 x6 x9 w3 w7 r0 t0 t1 z
  | _ => none
def c_X0_clearCross (vl : Nat → Nat) (K : Nat) : Nat → Nat → Int32 → Int32 → Int32 → Int32 → Int32 → Int64 → Int64 → Nat → Int32 → Int32 → ow_MS → Option (Int32 × ow_MS)
  | 0 => fun _ _ _ _ _ _ _ _ _ _ _ _ => none
  | k + 1 => cb_X0_clearCross vl K (c_X0_clearCross vl K k)
def ce_X0_clearCross (vl : Nat → Nat) (K : Nat) (r0 : Nat) (x1 : Int32) (x2 : Int32) (z : ow_MS) : Option (Int32 × ow_MS) := c_X0_clearCross vl K K 0 x1 x2 0 0 0 0 0 r0 0 0 z
abbrev wc_X0_clearCross : List Cond := .code yX0_clearCross cX0_clearCross 10 (some .boolean) :: wC
theorem cdd_X0_clearCross : yX0_clearCross.cls = RX0 ∧ yX0_clearCross.cls ≠ "java/lang/invoke/MethodHandle" ∧ yX0_clearCross.cls ≠ "java/lang/invoke/VarHandle" ∧ (parseMethodDescriptor yX0_clearCross.desc).map (fun d => d.parameters.length) = some 2 := by decide +kernel
set_option maxHeartbeats 4000000 in
set_option maxRecDepth 100000 in
theorem kc_X0_clearCross (l : Launch) (D : va_G) (q : Nat → ClassId) (vl u : Nat → Nat) (hU0 : tw_inj (cX vl) u) (K : Nat) (r0 : Nat) (x1 : Int32) (x2 : Int32) (hr0 : cw_X0 r0) (z z1 : ow_MS) (r : Int32) (hq : ce_X0_clearCross vl K r0 x1 x2 z = some (r, z1)) : Met l yX0_clearCross wc_X0_clearCross ({ frames := 0, cells := 0, slots := 0, locals := 0 } : Room) (va_Pc [.ref (u r0), .int x1, .int x2] (cw_pre D q vl u z)) (va_Qi (fun x (_ : Unit) => x = r) (fun _ t => va_P D vwCl (uw (cX vl) q u z1) t.heap) (tw_A (cX vl) u)) 0 0 (tw_A (cX vl) u) := by
  refine Met.ofW (cc := cX0_clearCross) (maxL := 10) (ret := (some .boolean)) (by decide) rfl ?_
  intro p e s m args below meth c s₁ B hml hv
  obtain ⟨rfl, hP, hK⟩ := hv
  have hx := B.exec
  have hb := B.bytes
  have hr := B.returns
  have hts := atoms_spec (ws := wc_X0_clearCross) B.pre
  have hT : ∀ w ∈ wC, w.before ([.ref (u r0), .int x1, .int x2] : List Value).toArray s = true := fun w h => hts w (List.mem_cons_of_mem _ h)
  have hown : s.vm.findClass RX0 = some m.cls := findClass_of_methodNamed B.named
  have hlocks := B.notSynchronized
  have hU : uw_inj (cX vl) u (tw_A (cX vl) u) := ⟨hU0, fun h hh => ⟨h, hh, rfl⟩⟩
  have hM : uw_M D vwCl (cX vl) q (tw_A (cX vl) u) s.heap u z s.heap [] := ⟨hP, va_S.rf⟩
  have hl := lv_entry ([.ref (u r0), .int x1, .int x2]) (n := 10) (Nat.le_of_ble_eq_true rfl)
  rw [lg_entry_eq]
  generalize (lg_sl ([.ref (u r0), .int x1, .int x2]) ++ List.replicate (10 - (lg_sl ([.ref (u r0), .int x1, .int x2])).length) Slot.unset).toArray = ls at hl ⊢
  have hl : lv_has ls 10 [(0, .ref (u r0)), (1, .int x1), (2, .int x2)] := hl
  refine ow_named (fun QQ hQQ => ?_)
  generalize ([.ref (u r0), .int x1, .int x2] : List Value).toArray = args at hts hT hQQ ⊢
  have key : ∀ k : Nat, (∀ (x1 : Int32) (x2 : Int32) (x5 : Int32) (x6 : Int32) (x9 : Int32) (w3 : Int64) (w7 : Int64) (r0 : Nat) (t0 : Int32) (t1 : Int32) (z : ow_MS) (H : Heap) (locs : List Loc) (ls : Array Slot), cw_X0 r0 → uw_M D vwCl (cX vl) q (tw_A (cX vl) u) s.heap u z H locs → lv_has ls 10 [(0, .ref (u r0)), (1, .int x1), (2, .int x2)] → c_X0_clearCross vl K k 0 x1 x2 x5 x6 x9 w3 w7 r0 t0 t1 z = some (r, z1) → W p l e ({ frames := 0, cells := 0, slots := 0, locals := 0 } : Room) s m args below meth c H locs 0 0 QQ (F0 m 0 ls [])) ∧ (∀ (x1 : Int32) (x2 : Int32) (x5 : Int32) (x6 : Int32) (x9 : Int32) (w3 : Int64) (w7 : Int64) (r0 : Nat) (t0 : Int32) (t1 : Int32) (z : ow_MS) (H : Heap) (locs : List Loc) (ls : Array Slot), cw_X0 r0 → uw_M D vwCl (cX vl) q (tw_A (cX vl) u) s.heap u z H locs → lv_has ls 10 [(0, .ref (u r0)), (1, .int x1), (2, .int x2), (3, .long w3), (5, .int x5), (6, .int x6)] → c_X0_clearCross vl K k 1 x1 x2 x5 x6 x9 w3 w7 r0 t0 t1 z = some (r, z1) → W p l e ({ frames := 0, cells := 0, slots := 0, locals := 0 } : Room) s m args below meth c H locs 0 0 QQ (F0 m 25 ls [])) ∧ (∀ (x1 : Int32) (x2 : Int32) (x5 : Int32) (x6 : Int32) (x9 : Int32) (w3 : Int64) (w7 : Int64) (r0 : Nat) (t0 : Int32) (t1 : Int32) (z : ow_MS) (H : Heap) (locs : List Loc) (ls : Array Slot), cw_X0 r0 → uw_M D vwCl (cX vl) q (tw_A (cX vl) u) s.heap u z H locs → lv_has ls 10 [(0, .ref (u r0)), (1, .int x1), (2, .int x2), (3, .long w3), (5, .int x5), (6, .int x6), (7, .long w7), (9, .int x9)] → c_X0_clearCross vl K k 2 x1 x2 x5 x6 x9 w3 w7 r0 t0 t1 z = some (r, z1) → W p l e ({ frames := 0, cells := 0, slots := 0, locals := 0 } : Room) s m args below meth c H locs 0 0 QQ (F0 m 47 ls [])) ∧ (∀ (x1 : Int32) (x2 : Int32) (x5 : Int32) (x6 : Int32) (x9 : Int32) (w3 : Int64) (w7 : Int64) (r0 : Nat) (t0 : Int32) (t1 : Int32) (z : ow_MS) (H : Heap) (locs : List Loc) (ls : Array Slot), cw_X0 r0 → uw_M D vwCl (cX vl) q (tw_A (cX vl) u) s.heap u z H locs → lv_has ls 10 [(0, .ref (u r0)), (1, .int x1), (2, .int x2), (3, .long w3), (5, .int x5), (6, .int x6), (7, .long w7), (9, .int x9)] → c_X0_clearCross vl K k 3 x1 x2 x5 x6 x9 w3 w7 r0 t0 t1 z = some (r, z1) → W p l e ({ frames := 0, cells := 0, slots := 0, locals := 0 } : Room) s m args below meth c H locs 0 0 QQ (F0 m 94 ls [])) ∧ (∀ (x1 : Int32) (x2 : Int32) (x5 : Int32) (x6 : Int32) (x9 : Int32) (w3 : Int64) (w7 : Int64) (r0 : Nat) (t0 : Int32) (t1 : Int32) (z : ow_MS) (H : Heap) (locs : List Loc) (ls : Array Slot), cw_X0 r0 → uw_M D vwCl (cX vl) q (tw_A (cX vl) u) s.heap u z H locs → lv_has ls 10 [(0, .ref (u r0)), (1, .int x1), (2, .int x2), (3, .long w3), (5, .int x5), (6, .int x6), (7, .long w7), (9, .int x9)] → c_X0_clearCross vl K k 4 x1 x2 x5 x6 x9 w3 w7 r0 t0 t1 z = some (r, z1) → W p l e ({ frames := 0, cells := 0, slots := 0, locals := 0 } : Room) s m args below meth c H locs 0 0 QQ (F0 m 115 ls [.int t0, .int t1])) ∧ (∀ (x1 : Int32) (x2 : Int32) (x5 : Int32) (x6 : Int32) (x9 : Int32) (w3 : Int64) (w7 : Int64) (r0 : Nat) (t0 : Int32) (t1 : Int32) (z : ow_MS) (H : Heap) (locs : List Loc) (ls : Array Slot), cw_X0 r0 → uw_M D vwCl (cX vl) q (tw_A (cX vl) u) s.heap u z H locs → lv_has ls 10 [(0, .ref (u r0)), (1, .int x1), (2, .int x2), (3, .long w3), (5, .int x5), (6, .int x6)] → c_X0_clearCross vl K k 5 x1 x2 x5 x6 x9 w3 w7 r0 t0 t1 z = some (r, z1) → W p l e ({ frames := 0, cells := 0, slots := 0, locals := 0 } : Room) s m args below meth c H locs 0 0 QQ (F0 m 129 ls [])) ∧ (∀ (x1 : Int32) (x2 : Int32) (x5 : Int32) (x6 : Int32) (x9 : Int32) (w3 : Int64) (w7 : Int64) (r0 : Nat) (t0 : Int32) (t1 : Int32) (z : ow_MS) (H : Heap) (locs : List Loc) (ls : Array Slot), cw_X0 r0 → uw_M D vwCl (cX vl) q (tw_A (cX vl) u) s.heap u z H locs → lv_has ls 10 [(0, .ref (u r0)), (1, .int x1), (2, .int x2), (3, .long w3), (5, .int x5), (6, .int x6), (7, .long w7), (9, .int x9)] → c_X0_clearCross vl K k 6 x1 x2 x5 x6 x9 w3 w7 r0 t0 t1 z = some (r, z1) → W p l e ({ frames := 0, cells := 0, slots := 0, locals := 0 } : Room) s m args below meth c H locs 0 0 QQ (F0 m 154 ls [])) ∧ (∀ (x1 : Int32) (x2 : Int32) (x5 : Int32) (x6 : Int32) (x9 : Int32) (w3 : Int64) (w7 : Int64) (r0 : Nat) (t0 : Int32) (t1 : Int32) (z : ow_MS) (H : Heap) (locs : List Loc) (ls : Array Slot), cw_X0 r0 → uw_M D vwCl (cX vl) q (tw_A (cX vl) u) s.heap u z H locs → lv_has ls 10 [(0, .ref (u r0)), (1, .int x1), (2, .int x2), (3, .long w3), (5, .int x5), (6, .int x6), (7, .long w7), (9, .int x9)] → c_X0_clearCross vl K k 7 x1 x2 x5 x6 x9 w3 w7 r0 t0 t1 z = some (r, z1) → W p l e ({ frames := 0, cells := 0, slots := 0, locals := 0 } : Room) s m args below meth c H locs 0 0 QQ (F0 m 198 ls [])) ∧ (∀ (x1 : Int32) (x2 : Int32) (x5 : Int32) (x6 : Int32) (x9 : Int32) (w3 : Int64) (w7 : Int64) (r0 : Nat) (t0 : Int32) (t1 : Int32) (z : ow_MS) (H : Heap) (locs : List Loc) (ls : Array Slot), cw_X0 r0 → uw_M D vwCl (cX vl) q (tw_A (cX vl) u) s.heap u z H locs → lv_has ls 10 [(0, .ref (u r0)), (1, .int x1), (2, .int x2), (3, .long w3), (5, .int x5), (6, .int x6), (7, .long w7), (9, .int x9)] → c_X0_clearCross vl K k 8 x1 x2 x5 x6 x9 w3 w7 r0 t0 t1 z = some (r, z1) → W p l e ({ frames := 0, cells := 0, slots := 0, locals := 0 } : Room) s m args below meth c H locs 0 0 QQ (F0 m 219 ls [.int t0, .int t1])) := by
    intro k
    induction k with
    | zero => exact ⟨fun _ _ _ _ _ _ _ _ _ _ _ _ _ _ _ _ _ hq => cw_no hq, fun _ _ _ _ _ _ _ _ _ _ _ _ _ _ _ _ _ hq => cw_no hq, fun _ _ _ _ _ _ _ _ _ _ _ _ _ _ _ _ _ hq => cw_no hq, fun _ _ _ _ _ _ _ _ _ _ _ _ _ _ _ _ _ hq => cw_no hq, fun _ _ _ _ _ _ _ _ _ _ _ _ _ _ _ _ _ hq => cw_no hq, fun _ _ _ _ _ _ _ _ _ _ _ _ _ _ _ _ _ hq => cw_no hq, fun _ _ _ _ _ _ _ _ _ _ _ _ _ _ _ _ _ hq => cw_no hq, fun _ _ _ _ _ _ _ _ _ _ _ _ _ _ _ _ _ hq => cw_no hq, fun _ _ _ _ _ _ _ _ _ _ _ _ _ _ _ _ _ hq => cw_no hq⟩
    | succ k ih =>
      obtain ⟨ih_0, ih_1, ih_2, ih_3, ih_4, ih_5, ih_6, ih_7, ih_8⟩ := ih
      refine ⟨?_, ?_, ?_, ?_, ?_, ?_, ?_, ?_, ?_⟩
      · intro x1 x2 x5 x6 x9 w3 w7 r0 t0 t1 z H locs ls hr0 hM hl hq
        have hq : cm_X0_clearCross_0 vl K (c_X0_clearCross vl K k) x1 x2 x5 x6 x9 w3 w7 r0 t0 t1 z = some (r, z1) := hq
        unfold cm_X0_clearCross_0 at hq
        refine lv_aload_n hx hb dcX0_clearCross_0 rfl (lv_at hl 0 rfl) ?_
        refine vgX0_17 hx hb hT hown hK hM hr0 dcX0_clearCross_1 ?_
        refine lv_iload_n hx hb dcX0_clearCross_4 rfl (lv_at hl 1 rfl) ?_
        refine ca_X0_2 hx hb hK hM hr0 hq dcX0_clearCross_5 (fun j1 hj1 hq => ?_)
        refine lv_iload_n hx hb dcX0_clearCross_6 rfl (lv_at hl 1 rfl) ?_
        refine uw_lald cX_ok hx hb hK hM (cg_X0_2 hr0 hj1) hq dcX0_clearCross_7 (fun v2 hq => ?_)
        refine lv_lstore_n (lv' := [(3, .long v2), (0, .ref (u r0)), (1, .int x1), (2, .int x2)]) hx hb dcX0_clearCross_8 rfl hl (by decide) rfl (fun ls hl => ?_)
        refine lv_lload_n hx hb dcX0_clearCross_9 rfl (lv_at hl 0 rfl) ?_
        refine lv_lconst (v := 0) hx hb dcX0_clearCross_10 rfl ?_
        refine W.lcmp hx hb dcX0_clearCross_11 ?_
        refine lv_if_ne (tgt := 17) hx hb dcX0_clearCross_12 (by decide) (fun hc => ?_) (fun hc => ?_)
        · have hq := tw_if hq hc
          refine lv_iconst (v := 1) hx hb dcX0_clearCross_17 (by decide) ?_
          refine lv_istore (lv' := [(5, .int 1), (3, .long v2), (0, .ref (u r0)), (1, .int x1), (2, .int x2)]) hx hb dcX0_clearCross_18 hl (by decide) rfl (fun ls hl => ?_)
          refine lv_iload_n hx hb dcX0_clearCross_20 rfl (lv_at hl 3 rfl) ?_
          refine lv_iconst (v := 1) hx hb dcX0_clearCross_21 (by decide) ?_
          refine lv_iadd hx hb dcX0_clearCross_22 ?_
          refine lv_istore (lv' := [(6, .int (x1 + 1)), (5, .int 1), (3, .long v2), (0, .ref (u r0)), (1, .int x1), (2, .int x2)]) hx hb dcX0_clearCross_23 hl (by decide) rfl (fun ls hl => ?_)
          exact ih_1 x1 x2 1 (x1 + 1) 0 v2 0 r0 0 0 z H locs ls hr0 hM (lv_sub hl [3, 4, 5, 2, 1, 0] rfl) hq
        · have hq := tw_it hq hc
          refine lv_iconst (v := 0) hx hb dcX0_clearCross_15 (by decide) ?_
          obtain ⟨hz, hq⟩ := tw_gZ hq
          exact cw_zret hx hb hr hlocks hM hz hq hQQ dcX0_clearCross_16
      · intro x1 x2 x5 x6 x9 w3 w7 r0 t0 t1 z H locs ls hr0 hM hl hq
        have hq : cm_X0_clearCross_1 vl K (c_X0_clearCross vl K k) x1 x2 x5 x6 x9 w3 w7 r0 t0 t1 z = some (r, z1) := hq
        unfold cm_X0_clearCross_1 at hq
        refine lv_iload hx hb dcX0_clearCross_25 (lv_at hl 5 rfl) ?_
        refine lv_iload_n hx hb dcX0_clearCross_27 rfl (lv_at hl 2 rfl) ?_
        refine lv_icmp_ge (tgt := 124) hx hb dcX0_clearCross_28 (by decide) (fun hc => ?_) (fun hc => ?_)
        · have hq := tw_it hq hc
          refine lv_iload_n hx hb dcX0_clearCross_124 rfl (lv_at hl 1 rfl) ?_
          refine lv_iconst (v := 1) hx hb dcX0_clearCross_125 (by decide) ?_
          refine lv_iadd hx hb dcX0_clearCross_126 ?_
          refine lv_istore (lv' := [(6, .int (x1 + 1)), (0, .ref (u r0)), (1, .int x1), (2, .int x2), (3, .long w3), (5, .int x5)]) hx hb dcX0_clearCross_127 hl (by decide) rfl (fun ls hl => ?_)
          exact ih_5 x1 x2 x5 (x1 + 1) 0 w3 0 r0 0 0 z H locs ls hr0 hM (lv_sub hl [1, 2, 3, 4, 5, 0] rfl) hq
        · have hq := tw_if hq hc
          refine lv_aload_n hx hb dcX0_clearCross_31 rfl (lv_at hl 0 rfl) ?_
          refine vgX0_17 hx hb hT hown hK hM hr0 dcX0_clearCross_32 ?_
          refine lv_iload hx hb dcX0_clearCross_35 (lv_at hl 5 rfl) ?_
          refine ca_X0_2 hx hb hK hM hr0 hq dcX0_clearCross_37 (fun j3 hj3 hq => ?_)
          refine lv_iload_n hx hb dcX0_clearCross_38 rfl (lv_at hl 1 rfl) ?_
          refine uw_lald cX_ok hx hb hK hM (cg_X0_2 hr0 hj3) hq dcX0_clearCross_39 (fun v4 hq => ?_)
          refine lv_lload_n hx hb dcX0_clearCross_40 rfl (lv_at hl 3 rfl) ?_
          obtain ⟨hz, hq⟩ := tw_nzJ hq
          refine lv_ldiv hx hb dcX0_clearCross_41 hz ?_
          refine lv_lstore (lv' := [(7, .long (v4 / w3)), (0, .ref (u r0)), (1, .int x1), (2, .int x2), (3, .long w3), (5, .int x5), (6, .int x6)]) hx hb dcX0_clearCross_42 hl (by decide) rfl (fun ls hl => ?_)
          refine lv_iload_n hx hb dcX0_clearCross_44 rfl (lv_at hl 2 rfl) ?_
          refine lv_istore (lv' := [(9, .int x1), (7, .long (v4 / w3)), (0, .ref (u r0)), (1, .int x1), (2, .int x2), (3, .long w3), (5, .int x5), (6, .int x6)]) hx hb dcX0_clearCross_45 hl (by decide) rfl (fun ls hl => ?_)
          exact ih_2 x1 x2 x5 x6 x1 w3 (v4 / w3) r0 0 0 z H locs ls hr0 hM (lv_sub hl [2, 3, 4, 5, 6, 7, 1, 0] rfl) hq
      · intro x1 x2 x5 x6 x9 w3 w7 r0 t0 t1 z H locs ls hr0 hM hl hq
        have hq : cm_X0_clearCross_2 vl K (c_X0_clearCross vl K k) x1 x2 x5 x6 x9 w3 w7 r0 t0 t1 z = some (r, z1) := hq
        unfold cm_X0_clearCross_2 at hq
        refine lv_iload hx hb dcX0_clearCross_47 (lv_at hl 7 rfl) ?_
        refine lv_aload_n hx hb dcX0_clearCross_49 rfl (lv_at hl 0 rfl) ?_
        refine vgX0_82 hx hb hT hown hK hM hr0 hq dcX0_clearCross_50 (fun v5 hq => ?_)
        refine lv_icmp_ge (tgt := 94) hx hb dcX0_clearCross_53 (by decide) (fun hc => ?_) (fun hc => ?_)
        · have hq := tw_it hq hc
          exact ih_3 x1 x2 x5 x6 x9 w3 w7 r0 0 0 z H locs ls hr0 hM (lv_sub hl [0, 1, 2, 3, 4, 5, 6, 7] rfl) hq
        · have hq := tw_if hq hc
          refine lv_lload hx hb dcX0_clearCross_56 (lv_at hl 6 rfl) ?_
          refine lv_lconst (v := 0) hx hb dcX0_clearCross_58 rfl ?_
          refine W.lcmp hx hb dcX0_clearCross_59 ?_
          refine lv_if_eq (tgt := 94) hx hb dcX0_clearCross_60 (by decide) (fun hc => ?_) (fun hc => ?_)
          · have hq := tw_it hq hc
            exact ih_3 x1 x2 x5 x6 x9 w3 w7 r0 0 0 z H locs ls hr0 hM (lv_sub hl [0, 1, 2, 3, 4, 5, 6, 7] rfl) hq
          · have hq := tw_if hq hc
            refine lv_aload_n hx hb dcX0_clearCross_63 rfl (lv_at hl 0 rfl) ?_
            refine vgX0_17 hx hb hT hown hK hM hr0 dcX0_clearCross_64 ?_
            refine lv_iload hx hb dcX0_clearCross_67 (lv_at hl 5 rfl) ?_
            refine ca_X0_2 hx hb hK hM hr0 hq dcX0_clearCross_69 (fun j6 hj6 hq => ?_)
            refine lv_iload hx hb dcX0_clearCross_70 (lv_at hl 7 rfl) ?_
            refine lv_dup2_11 hx hb dcX0_clearCross_72 rfl rfl ?_
            refine uw_lald cX_ok hx hb hK hM (cg_X0_2 hr0 hj6) hq dcX0_clearCross_73 (fun v7 hq => ?_)
            refine lv_lload hx hb dcX0_clearCross_74 (lv_at hl 6 rfl) ?_
            refine lv_aload_n hx hb dcX0_clearCross_76 rfl (lv_at hl 0 rfl) ?_
            refine vgX0_17 hx hb hT hown hK hM hr0 dcX0_clearCross_77 ?_
            refine lv_iload_n hx hb dcX0_clearCross_80 rfl (lv_at hl 1 rfl) ?_
            refine ca_X0_2 hx hb hK hM hr0 hq dcX0_clearCross_81 (fun j8 hj8 hq => ?_)
            refine lv_iload hx hb dcX0_clearCross_82 (lv_at hl 7 rfl) ?_
            refine uw_lald cX_ok hx hb hK hM (cg_X0_2 hr0 hj8) hq dcX0_clearCross_84 (fun v9 hq => ?_)
            refine lv_lmul hx hb dcX0_clearCross_85 ?_
            refine lv_lsub hx hb dcX0_clearCross_86 ?_
            refine uw_last cX_ok hU hx hb hK hM (cg_X0_2 hr0 hj6) hq dcX0_clearCross_87 (fun z10 H locs hM hq => ?_)
            refine lv_iinc (v := (x9 + 1)) (lv' := [(9, .int (x9 + 1)), (0, .ref (u r0)), (1, .int x1), (2, .int x2), (3, .long w3), (5, .int x5), (6, .int x6), (7, .long w7)]) hx hb dcX0_clearCross_88 hl (k := 7) rfl rfl (by decide) rfl (fun ls hl => ?_)
            refine lv_goto (tgt := 47) hx hb dcX0_clearCross_91 (by decide) ?_
            exact ih_2 x1 x2 x5 x6 (x9 + 1) w3 w7 r0 0 0 z10 H locs ls hr0 hM (lv_sub hl [1, 2, 3, 4, 5, 6, 7, 0] rfl) hq
      · intro x1 x2 x5 x6 x9 w3 w7 r0 t0 t1 z H locs ls hr0 hM hl hq
        have hq : cm_X0_clearCross_3 vl K (c_X0_clearCross vl K k) x1 x2 x5 x6 x9 w3 w7 r0 t0 t1 z = some (r, z1) := hq
        unfold cm_X0_clearCross_3 at hq
        refine lv_iload hx hb dcX0_clearCross_94 (lv_at hl 4 rfl) ?_
        refine lv_aload_n hx hb dcX0_clearCross_96 rfl (lv_at hl 0 rfl) ?_
        refine vgX0_17 hx hb hT hown hK hM hr0 dcX0_clearCross_97 ?_
        refine lv_iload hx hb dcX0_clearCross_100 (lv_at hl 5 rfl) ?_
        refine ca_X0_2 hx hb hK hM hr0 hq dcX0_clearCross_102 (fun j11 hj11 hq => ?_)
        refine lv_iload_n hx hb dcX0_clearCross_103 rfl (lv_at hl 1 rfl) ?_
        refine uw_lald cX_ok hx hb hK hM (cg_X0_2 hr0 hj11) hq dcX0_clearCross_104 (fun v12 hq => ?_)
        refine lv_lconst (v := 0) hx hb dcX0_clearCross_105 rfl ?_
        refine W.lcmp hx hb dcX0_clearCross_106 ?_
        refine lv_if_ne (tgt := 114) hx hb dcX0_clearCross_107 (by decide) (fun hc => ?_) (fun hc => ?_)
        · have hq := tw_if hq hc
          refine lv_iconst (v := 0) hx hb dcX0_clearCross_114 (by decide) ?_
          exact ih_4 x1 x2 x5 x6 x9 w3 w7 r0 0 x5 z H locs ls hr0 hM (lv_sub hl [0, 1, 2, 3, 4, 5, 6, 7] rfl) hq
        · have hq := tw_it hq hc
          refine lv_iconst (v := 1) hx hb dcX0_clearCross_110 (by decide) ?_
          refine lv_goto (tgt := 115) hx hb dcX0_clearCross_111 (by decide) ?_
          exact ih_4 x1 x2 x5 x6 x9 w3 w7 r0 1 x5 z H locs ls hr0 hM (lv_sub hl [0, 1, 2, 3, 4, 5, 6, 7] rfl) hq
      · intro x1 x2 x5 x6 x9 w3 w7 r0 t0 t1 z H locs ls hr0 hM hl hq
        have hq : cm_X0_clearCross_4 vl K (c_X0_clearCross vl K k) x1 x2 x5 x6 x9 w3 w7 r0 t0 t1 z = some (r, z1) := hq
        unfold cm_X0_clearCross_4 at hq
        refine lv_iand hx hb dcX0_clearCross_115 ?_
        refine lv_istore (lv' := [(5, .int (t1 &&& t0)), (0, .ref (u r0)), (1, .int x1), (2, .int x2), (3, .long w3), (6, .int x6), (7, .long w7), (9, .int x9)]) hx hb dcX0_clearCross_116 hl (by decide) rfl (fun ls hl => ?_)
        refine lv_iinc (v := (x6 + 1)) (lv' := [(6, .int (x6 + 1)), (5, .int (t1 &&& t0)), (0, .ref (u r0)), (1, .int x1), (2, .int x2), (3, .long w3), (7, .long w7), (9, .int x9)]) hx hb dcX0_clearCross_118 hl (k := 5) rfl rfl (by decide) rfl (fun ls hl => ?_)
        refine lv_goto (tgt := 25) hx hb dcX0_clearCross_121 (by decide) ?_
        exact ih_1 x1 x2 (t1 &&& t0) (x6 + 1) 0 w3 0 r0 0 0 z H locs ls hr0 hM (lv_sub hl [2, 3, 4, 5, 1, 0] rfl) hq
      · intro x1 x2 x5 x6 x9 w3 w7 r0 t0 t1 z H locs ls hr0 hM hl hq
        have hq : cm_X0_clearCross_5 vl K (c_X0_clearCross vl K k) x1 x2 x5 x6 x9 w3 w7 r0 t0 t1 z = some (r, z1) := hq
        unfold cm_X0_clearCross_5 at hq
        refine lv_iload hx hb dcX0_clearCross_129 (lv_at hl 5 rfl) ?_
        refine lv_aload_n hx hb dcX0_clearCross_131 rfl (lv_at hl 0 rfl) ?_
        refine vgX0_82 hx hb hT hown hK hM hr0 hq dcX0_clearCross_132 (fun v13 hq => ?_)
        refine lv_icmp_ge (tgt := 228) hx hb dcX0_clearCross_135 (by decide) (fun hc => ?_) (fun hc => ?_)
        · have hq := tw_it hq hc
          refine lv_iload hx hb dcX0_clearCross_228 (lv_at hl 4 rfl) ?_
          obtain ⟨hz, hq⟩ := tw_gZ hq
          exact cw_zret hx hb hr hlocks hM hz hq hQQ dcX0_clearCross_230
        · have hq := tw_if hq hc
          refine lv_aload_n hx hb dcX0_clearCross_138 rfl (lv_at hl 0 rfl) ?_
          refine vgX0_17 hx hb hT hown hK hM hr0 dcX0_clearCross_139 ?_
          refine lv_iload_n hx hb dcX0_clearCross_142 rfl (lv_at hl 1 rfl) ?_
          refine ca_X0_2 hx hb hK hM hr0 hq dcX0_clearCross_143 (fun j14 hj14 hq => ?_)
          refine lv_iload hx hb dcX0_clearCross_144 (lv_at hl 5 rfl) ?_
          refine uw_lald cX_ok hx hb hK hM (cg_X0_2 hr0 hj14) hq dcX0_clearCross_146 (fun v15 hq => ?_)
          refine lv_lload_n hx hb dcX0_clearCross_147 rfl (lv_at hl 3 rfl) ?_
          obtain ⟨hz, hq⟩ := tw_nzJ hq
          refine lv_ldiv hx hb dcX0_clearCross_148 hz ?_
          refine lv_lstore (lv' := [(7, .long (v15 / w3)), (0, .ref (u r0)), (1, .int x1), (2, .int x2), (3, .long w3), (5, .int x5), (6, .int x6)]) hx hb dcX0_clearCross_149 hl (by decide) rfl (fun ls hl => ?_)
          refine lv_iload_n hx hb dcX0_clearCross_151 rfl (lv_at hl 2 rfl) ?_
          refine lv_istore (lv' := [(9, .int x1), (7, .long (v15 / w3)), (0, .ref (u r0)), (1, .int x1), (2, .int x2), (3, .long w3), (5, .int x5), (6, .int x6)]) hx hb dcX0_clearCross_152 hl (by decide) rfl (fun ls hl => ?_)
          exact ih_6 x1 x2 x5 x6 x1 w3 (v15 / w3) r0 0 0 z H locs ls hr0 hM (lv_sub hl [2, 3, 4, 5, 6, 7, 1, 0] rfl) hq
      · intro x1 x2 x5 x6 x9 w3 w7 r0 t0 t1 z H locs ls hr0 hM hl hq
        have hq : cm_X0_clearCross_6 vl K (c_X0_clearCross vl K k) x1 x2 x5 x6 x9 w3 w7 r0 t0 t1 z = some (r, z1) := hq
        unfold cm_X0_clearCross_6 at hq
        refine lv_iload hx hb dcX0_clearCross_154 (lv_at hl 7 rfl) ?_
        refine lv_iload_n hx hb dcX0_clearCross_156 rfl (lv_at hl 2 rfl) ?_
        refine lv_icmp_ge (tgt := 198) hx hb dcX0_clearCross_157 (by decide) (fun hc => ?_) (fun hc => ?_)
        · have hq := tw_it hq hc
          exact ih_7 x1 x2 x5 x6 x9 w3 w7 r0 0 0 z H locs ls hr0 hM (lv_sub hl [0, 1, 2, 3, 4, 5, 6, 7] rfl) hq
        · have hq := tw_if hq hc
          refine lv_lload hx hb dcX0_clearCross_160 (lv_at hl 6 rfl) ?_
          refine lv_lconst (v := 0) hx hb dcX0_clearCross_162 rfl ?_
          refine W.lcmp hx hb dcX0_clearCross_163 ?_
          refine lv_if_eq (tgt := 198) hx hb dcX0_clearCross_164 (by decide) (fun hc => ?_) (fun hc => ?_)
          · have hq := tw_it hq hc
            exact ih_7 x1 x2 x5 x6 x9 w3 w7 r0 0 0 z H locs ls hr0 hM (lv_sub hl [0, 1, 2, 3, 4, 5, 6, 7] rfl) hq
          · have hq := tw_if hq hc
            refine lv_aload_n hx hb dcX0_clearCross_167 rfl (lv_at hl 0 rfl) ?_
            refine vgX0_17 hx hb hT hown hK hM hr0 dcX0_clearCross_168 ?_
            refine lv_iload hx hb dcX0_clearCross_171 (lv_at hl 7 rfl) ?_
            refine ca_X0_2 hx hb hK hM hr0 hq dcX0_clearCross_173 (fun j16 hj16 hq => ?_)
            refine lv_iload hx hb dcX0_clearCross_174 (lv_at hl 5 rfl) ?_
            refine lv_dup2_11 hx hb dcX0_clearCross_176 rfl rfl ?_
            refine uw_lald cX_ok hx hb hK hM (cg_X0_2 hr0 hj16) hq dcX0_clearCross_177 (fun v17 hq => ?_)
            refine lv_lload hx hb dcX0_clearCross_178 (lv_at hl 6 rfl) ?_
            refine lv_aload_n hx hb dcX0_clearCross_180 rfl (lv_at hl 0 rfl) ?_
            refine vgX0_17 hx hb hT hown hK hM hr0 dcX0_clearCross_181 ?_
            refine lv_iload hx hb dcX0_clearCross_184 (lv_at hl 7 rfl) ?_
            refine ca_X0_2 hx hb hK hM hr0 hq dcX0_clearCross_186 (fun j18 hj18 hq => ?_)
            refine lv_iload_n hx hb dcX0_clearCross_187 rfl (lv_at hl 1 rfl) ?_
            refine uw_lald cX_ok hx hb hK hM (cg_X0_2 hr0 hj18) hq dcX0_clearCross_188 (fun v19 hq => ?_)
            refine lv_lmul hx hb dcX0_clearCross_189 ?_
            refine lv_lsub hx hb dcX0_clearCross_190 ?_
            refine uw_last cX_ok hU hx hb hK hM (cg_X0_2 hr0 hj16) hq dcX0_clearCross_191 (fun z20 H locs hM hq => ?_)
            refine lv_iinc (v := (x9 + 1)) (lv' := [(9, .int (x9 + 1)), (0, .ref (u r0)), (1, .int x1), (2, .int x2), (3, .long w3), (5, .int x5), (6, .int x6), (7, .long w7)]) hx hb dcX0_clearCross_192 hl (k := 7) rfl rfl (by decide) rfl (fun ls hl => ?_)
            refine lv_goto (tgt := 154) hx hb dcX0_clearCross_195 (by decide) ?_
            exact ih_6 x1 x2 x5 x6 (x9 + 1) w3 w7 r0 0 0 z20 H locs ls hr0 hM (lv_sub hl [1, 2, 3, 4, 5, 6, 7, 0] rfl) hq
      · intro x1 x2 x5 x6 x9 w3 w7 r0 t0 t1 z H locs ls hr0 hM hl hq
        have hq : cm_X0_clearCross_7 vl K (c_X0_clearCross vl K k) x1 x2 x5 x6 x9 w3 w7 r0 t0 t1 z = some (r, z1) := hq
        unfold cm_X0_clearCross_7 at hq
        refine lv_iload hx hb dcX0_clearCross_198 (lv_at hl 4 rfl) ?_
        refine lv_aload_n hx hb dcX0_clearCross_200 rfl (lv_at hl 0 rfl) ?_
        refine vgX0_17 hx hb hT hown hK hM hr0 dcX0_clearCross_201 ?_
        refine lv_iload_n hx hb dcX0_clearCross_204 rfl (lv_at hl 1 rfl) ?_
        refine ca_X0_2 hx hb hK hM hr0 hq dcX0_clearCross_205 (fun j21 hj21 hq => ?_)
        refine lv_iload hx hb dcX0_clearCross_206 (lv_at hl 5 rfl) ?_
        refine uw_lald cX_ok hx hb hK hM (cg_X0_2 hr0 hj21) hq dcX0_clearCross_208 (fun v22 hq => ?_)
        refine lv_lconst (v := 0) hx hb dcX0_clearCross_209 rfl ?_
        refine W.lcmp hx hb dcX0_clearCross_210 ?_
        refine lv_if_ne (tgt := 218) hx hb dcX0_clearCross_211 (by decide) (fun hc => ?_) (fun hc => ?_)
        · have hq := tw_if hq hc
          refine lv_iconst (v := 0) hx hb dcX0_clearCross_218 (by decide) ?_
          exact ih_8 x1 x2 x5 x6 x9 w3 w7 r0 0 x5 z H locs ls hr0 hM (lv_sub hl [0, 1, 2, 3, 4, 5, 6, 7] rfl) hq
        · have hq := tw_it hq hc
          refine lv_iconst (v := 1) hx hb dcX0_clearCross_214 (by decide) ?_
          refine lv_goto (tgt := 219) hx hb dcX0_clearCross_215 (by decide) ?_
          exact ih_8 x1 x2 x5 x6 x9 w3 w7 r0 1 x5 z H locs ls hr0 hM (lv_sub hl [0, 1, 2, 3, 4, 5, 6, 7] rfl) hq
      · intro x1 x2 x5 x6 x9 w3 w7 r0 t0 t1 z H locs ls hr0 hM hl hq
        have hq : cm_X0_clearCross_8 vl K (c_X0_clearCross vl K k) x1 x2 x5 x6 x9 w3 w7 r0 t0 t1 z = some (r, z1) := hq
        unfold cm_X0_clearCross_8 at hq
        refine lv_iand hx hb dcX0_clearCross_219 ?_
        refine lv_istore (lv' := [(5, .int (t1 &&& t0)), (0, .ref (u r0)), (1, .int x1), (2, .int x2), (3, .long w3), (6, .int x6), (7, .long w7), (9, .int x9)]) hx hb dcX0_clearCross_220 hl (by decide) rfl (fun ls hl => ?_)
        refine lv_iinc (v := (x6 + 1)) (lv' := [(6, .int (x6 + 1)), (5, .int (t1 &&& t0)), (0, .ref (u r0)), (1, .int x1), (2, .int x2), (3, .long w3), (7, .long w7), (9, .int x9)]) hx hb dcX0_clearCross_222 hl (k := 5) rfl rfl (by decide) rfl (fun ls hl => ?_)
        refine lv_goto (tgt := 129) hx hb dcX0_clearCross_225 (by decide) ?_
        exact ih_5 x1 x2 (t1 &&& t0) (x6 + 1) 0 w3 0 r0 0 0 z H locs ls hr0 hM (lv_sub hl [2, 3, 4, 5, 1, 0] rfl) hq
  exact (key K).1 x1 x2 0 0 0 0 0 r0 0 0 z s.heap [] ls hr0 hM (lv_sub hl [0, 1, 2] rfl) hq
theorem dcX0_undivided_0 : decode cX0_undivided 0 = .ok (.aload_n 0, 1) := dw_at cX0_undivided_k0 (p := 0) rfl (by decide +kernel)
theorem dcX0_undivided_1 : decode cX0_undivided 1 = .ok (.getfield 17, 3) := dw_at cX0_undivided_k0 (p := 1) rfl (by decide +kernel)
theorem dcX0_undivided_4 : decode cX0_undivided 4 = .ok (.iload_n 1, 1) := dw_at cX0_undivided_k0 (p := 4) rfl (by decide +kernel)
theorem dcX0_undivided_5 : decode cX0_undivided 5 = .ok (.aaload, 1) := dw_at cX0_undivided_k0 (p := 5) rfl (by decide +kernel)
theorem dcX0_undivided_6 : decode cX0_undivided 6 = .ok (.iload_n 1, 1) := dw_at cX0_undivided_k0 (p := 6) rfl (by decide +kernel)
theorem dcX0_undivided_7 : decode cX0_undivided 7 = .ok (.laload, 1) := dw_at cX0_undivided_k0 (p := 7) rfl (by decide +kernel)
theorem dcX0_undivided_8 : decode cX0_undivided 8 = .ok (.lstore_n 3, 1) := dw_at cX0_undivided_k0 (p := 8) rfl (by decide +kernel)
theorem dcX0_undivided_9 : decode cX0_undivided 9 = .ok (.iload_n 1, 1) := dw_at cX0_undivided_k0 (p := 9) rfl (by decide +kernel)
theorem dcX0_undivided_10 : decode cX0_undivided 10 = .ok (.iconst 1, 1) := dw_at cX0_undivided_k0 (p := 10) rfl (by decide +kernel)
theorem dcX0_undivided_11 : decode cX0_undivided 11 = .ok (.iadd, 1) := dw_at cX0_undivided_k0 (p := 11) rfl (by decide +kernel)
theorem dcX0_undivided_12 : decode cX0_undivided 12 = .ok (.istore 5, 2) := dw_at cX0_undivided_k0 (p := 12) rfl (by decide +kernel)
theorem dcX0_undivided_14 : decode cX0_undivided 14 = .ok (.iload 5, 2) := dw_at cX0_undivided_k0 (p := 14) rfl (by decide +kernel)
theorem dcX0_undivided_16 : decode cX0_undivided 16 = .ok (.iload_n 2, 1) := dw_at cX0_undivided_k0 (p := 16) rfl (by decide +kernel)
theorem dcX0_undivided_17 : decode cX0_undivided 17 = .ok (.if_icmp .ge 55, 3) := dw_at cX0_undivided_k0 (p := 17) rfl (by decide +kernel)
theorem dcX0_undivided_20 : decode cX0_undivided 20 = .ok (.lload_n 3, 1) := dw_at cX0_undivided_k0 (p := 20) rfl (by decide +kernel)
theorem dcX0_undivided_21 : decode cX0_undivided 21 = .ok (.lconst 0, 1) := dw_at cX0_undivided_k0 (p := 21) rfl (by decide +kernel)
theorem dcX0_undivided_22 : decode cX0_undivided 22 = .ok (.lcmp, 1) := dw_at cX0_undivided_k0 (p := 22) rfl (by decide +kernel)
theorem dcX0_undivided_23 : decode cX0_undivided 23 = .ok (.ifCond .eq 49, 3) := dw_at cX0_undivided_k0 (p := 23) rfl (by decide +kernel)
theorem dcX0_undivided_26 : decode cX0_undivided 26 = .ok (.iload_n 1, 1) := dw_at cX0_undivided_k1 (p := 0) rfl (by decide +kernel)
theorem dcX0_undivided_27 : decode cX0_undivided 27 = .ok (.iconst 1, 1) := dw_at cX0_undivided_k1 (p := 1) rfl (by decide +kernel)
theorem dcX0_undivided_28 : decode cX0_undivided 28 = .ok (.iadd, 1) := dw_at cX0_undivided_k1 (p := 2) rfl (by decide +kernel)
theorem dcX0_undivided_29 : decode cX0_undivided 29 = .ok (.istore 6, 2) := dw_at cX0_undivided_k1 (p := 3) rfl (by decide +kernel)
theorem dcX0_undivided_31 : decode cX0_undivided 31 = .ok (.iload 6, 2) := dw_at cX0_undivided_k1 (p := 5) rfl (by decide +kernel)
theorem dcX0_undivided_33 : decode cX0_undivided 33 = .ok (.aload_n 0, 1) := dw_at cX0_undivided_k1 (p := 7) rfl (by decide +kernel)
theorem dcX0_undivided_34 : decode cX0_undivided 34 = .ok (.getfield 82, 3) := dw_at cX0_undivided_k1 (p := 8) rfl (by decide +kernel)
theorem dcX0_undivided_37 : decode cX0_undivided 37 = .ok (.if_icmp .ge 29, 3) := dw_at cX0_undivided_k1 (p := 11) rfl (by decide +kernel)
theorem dcX0_undivided_40 : decode cX0_undivided 40 = .ok (.aload_n 0, 1) := dw_at cX0_undivided_k1 (p := 14) rfl (by decide +kernel)
theorem dcX0_undivided_41 : decode cX0_undivided 41 = .ok (.getfield 17, 3) := dw_at cX0_undivided_k1 (p := 15) rfl (by decide +kernel)
theorem dcX0_undivided_44 : decode cX0_undivided 44 = .ok (.iload 5, 2) := dw_at cX0_undivided_k1 (p := 18) rfl (by decide +kernel)
theorem dcX0_undivided_46 : decode cX0_undivided 46 = .ok (.aaload, 1) := dw_at cX0_undivided_k1 (p := 20) rfl (by decide +kernel)
theorem dcX0_undivided_47 : decode cX0_undivided 47 = .ok (.iload 6, 2) := dw_at cX0_undivided_k1 (p := 21) rfl (by decide +kernel)
theorem dcX0_undivided_49 : decode cX0_undivided 49 = .ok (.laload, 1) := dw_at cX0_undivided_k1 (p := 23) rfl (by decide +kernel)
theorem dcX0_undivided_50 : decode cX0_undivided 50 = .ok (.lload_n 3, 1) := dw_at cX0_undivided_k2 (p := 0) rfl (by decide +kernel)
theorem dcX0_undivided_51 : decode cX0_undivided 51 = .ok (.lrem, 1) := dw_at cX0_undivided_k2 (p := 1) rfl (by decide +kernel)
theorem dcX0_undivided_52 : decode cX0_undivided 52 = .ok (.lconst 0, 1) := dw_at cX0_undivided_k2 (p := 2) rfl (by decide +kernel)
theorem dcX0_undivided_53 : decode cX0_undivided 53 = .ok (.lcmp, 1) := dw_at cX0_undivided_k2 (p := 3) rfl (by decide +kernel)
theorem dcX0_undivided_54 : decode cX0_undivided 54 = .ok (.ifCond .eq 6, 3) := dw_at cX0_undivided_k2 (p := 4) rfl (by decide +kernel)
theorem dcX0_undivided_57 : decode cX0_undivided 57 = .ok (.iload 5, 2) := dw_at cX0_undivided_k2 (p := 7) rfl (by decide +kernel)
theorem dcX0_undivided_59 : decode cX0_undivided 59 = .ok (.ireturn, 1) := dw_at cX0_undivided_k2 (p := 9) rfl (by decide +kernel)
theorem dcX0_undivided_60 : decode cX0_undivided 60 = .ok (.iinc 6 1, 3) := dw_at cX0_undivided_k2 (p := 10) rfl (by decide +kernel)
theorem dcX0_undivided_63 : decode cX0_undivided 63 = .ok (.goto (-32), 3) := dw_at cX0_undivided_k2 (p := 13) rfl (by decide +kernel)
theorem dcX0_undivided_66 : decode cX0_undivided 66 = .ok (.iinc 5 1, 3) := dw_at cX0_undivided_k2 (p := 16) rfl (by decide +kernel)
theorem dcX0_undivided_69 : decode cX0_undivided 69 = .ok (.goto (-55), 3) := dw_at cX0_undivided_k2 (p := 19) rfl (by decide +kernel)
theorem dcX0_undivided_72 : decode cX0_undivided 72 = .ok (.iconst (-1), 1) := dw_at cX0_undivided_k2 (p := 22) rfl (by decide +kernel)
theorem dcX0_undivided_73 : decode cX0_undivided 73 = .ok (.ireturn, 1) := dw_at cX0_undivided_k2 (p := 23) rfl (by decide +kernel)
def cm_X0_undivided_0 (vl : Nat → Nat) (K : Nat) (go : Nat → Int32 → Int32 → Int32 → Int32 → Int64 → Nat → ow_MS → Option (Int32 × ow_MS)) (x1 : Int32) (x2 : Int32) (x5 : Int32) (x6 : Int32) (w3 : Int64) (r0 : Nat) (z : ow_MS) : Option (Int32 × ow_MS) :=
 crX 12 x1 fun j1 => crJ (cX vl) z (r0 + 1001 + j1) x1 fun v2 => go 1 x1 x2 (x1 + 1) 0 v2 r0 z
def cm_X0_undivided_1 (vl : Nat → Nat) (K : Nat) (go : Nat → Int32 → Int32 → Int32 → Int32 → Int64 → Nat → ow_MS → Option (Int32 × ow_MS)) (x1 : Int32) (x2 : Int32) (x5 : Int32) (x6 : Int32) (w3 : Int64) (r0 : Nat) (z : ow_MS) : Option (Int32 × ow_MS) :=
 (if x2 ≤ x5 then some ((-1), z)
 else (if (lg_cmp w3 0) = 0 then some ((-1), z)
 else go 2 x1 x2 x5 (x1 + 1) w3 r0 z))
def cm_X0_undivided_2 (vl : Nat → Nat) (K : Nat) (go : Nat → Int32 → Int32 → Int32 → Int32 → Int64 → Nat → ow_MS → Option (Int32 × ow_MS)) (x1 : Int32) (x2 : Int32) (x5 : Int32) (x6 : Int32) (w3 : Int64) (r0 : Nat) (z : ow_MS) : Option (Int32 × ow_MS) :=
 rdF z (r0 + 2) fun v3 => (if v3 ≤ x6 then go 1 x1 x2 (x5 + 1) 0 w3 r0 z
 else crX 12 x5 fun j4 => crJ (cX vl) z (r0 + 1001 + j4) x6 fun v5 => nzJ w3 ((if (lg_cmp (v5 - v5 / w3 * w3) 0) = 0 then go 2 x1 x2 x5 (x6 + 1) w3 r0 z
 else some (x5, z))))
def cb_X0_undivided (vl : Nat → Nat) (K : Nat) (go : Nat → Int32 → Int32 → Int32 → Int32 → Int64 → Nat → ow_MS → Option (Int32 × ow_MS)) (L : Nat) (x1 : Int32) (x2 : Int32) (x5 : Int32) (x6 : Int32) (w3 : Int64) (r0 : Nat) (z : ow_MS) : Option (Int32 × ow_MS) := match L with
  | 0 => cm_X0_undivided_0 vl K go x1 x2 x5 x6 w3 r0 z
  | 1 => cm_X0_undivided_1 vl K go x1 x2 x5 x6 w3 r0 z
  | 2 => cm_X0_undivided_2 vl K go x1 x2 x5 x6 w3 r0 z
  | _ => none
def c_X0_undivided (vl : Nat → Nat) (K : Nat) : Nat → Nat → Int32 → Int32 → Int32 → Int32 → Int64 → Nat → ow_MS → Option (Int32 × ow_MS)
  | 0 => fun _ _ _ _ _ _ _ _ => none
  | k + 1 => cb_X0_undivided vl K (c_X0_undivided vl K k)
def ce_X0_undivided (vl : Nat → Nat) (K : Nat) (r0 : Nat) (x1 : Int32) (x2 : Int32) (z : ow_MS) : Option (Int32 × ow_MS) := c_X0_undivided vl K K 0 x1 x2 0 0 0 r0 z
abbrev wc_X0_undivided : List Cond := .code yX0_undivided cX0_undivided 7 (some .int) :: wC
theorem cdd_X0_undivided : yX0_undivided.cls = RX0 ∧ yX0_undivided.cls ≠ "java/lang/invoke/MethodHandle" ∧ yX0_undivided.cls ≠ "java/lang/invoke/VarHandle" ∧ (parseMethodDescriptor yX0_undivided.desc).map (fun d => d.parameters.length) = some 2 := by decide +kernel
set_option maxHeartbeats 4000000 in
set_option maxRecDepth 100000 in
theorem kc_X0_undivided (l : Launch) (D : va_G) (q : Nat → ClassId) (vl u : Nat → Nat) (hU0 : tw_inj (cX vl) u) (K : Nat) (r0 : Nat) (x1 : Int32) (x2 : Int32) (hr0 : cw_X0 r0) (z z1 : ow_MS) (r : Int32) (hq : ce_X0_undivided vl K r0 x1 x2 z = some (r, z1)) : Met l yX0_undivided wc_X0_undivided ({ frames := 0, cells := 0, slots := 0, locals := 0 } : Room) (va_Pc [.ref (u r0), .int x1, .int x2] (cw_pre D q vl u z)) (va_Qi (fun x (_ : Unit) => x = r) (fun _ t => va_P D vwCl (uw (cX vl) q u z1) t.heap) (tw_A (cX vl) u)) 0 0 (tw_A (cX vl) u) := by
  refine Met.ofW (cc := cX0_undivided) (maxL := 7) (ret := (some .int)) (by decide) rfl ?_
  intro p e s m args below meth c s₁ B hml hv
  obtain ⟨rfl, hP, hK⟩ := hv
  have hx := B.exec
  have hb := B.bytes
  have hr := B.returns
  have hts := atoms_spec (ws := wc_X0_undivided) B.pre
  have hT : ∀ w ∈ wC, w.before ([.ref (u r0), .int x1, .int x2] : List Value).toArray s = true := fun w h => hts w (List.mem_cons_of_mem _ h)
  have hown : s.vm.findClass RX0 = some m.cls := findClass_of_methodNamed B.named
  have hlocks := B.notSynchronized
  have hU : uw_inj (cX vl) u (tw_A (cX vl) u) := ⟨hU0, fun h hh => ⟨h, hh, rfl⟩⟩
  have hM : uw_M D vwCl (cX vl) q (tw_A (cX vl) u) s.heap u z s.heap [] := ⟨hP, va_S.rf⟩
  have hl := lv_entry ([.ref (u r0), .int x1, .int x2]) (n := 7) (Nat.le_of_ble_eq_true rfl)
  rw [lg_entry_eq]
  generalize (lg_sl ([.ref (u r0), .int x1, .int x2]) ++ List.replicate (7 - (lg_sl ([.ref (u r0), .int x1, .int x2])).length) Slot.unset).toArray = ls at hl ⊢
  have hl : lv_has ls 7 [(0, .ref (u r0)), (1, .int x1), (2, .int x2)] := hl
  refine ow_named (fun QQ hQQ => ?_)
  generalize ([.ref (u r0), .int x1, .int x2] : List Value).toArray = args at hts hT hQQ ⊢
  have key : ∀ k : Nat, (∀ (x1 : Int32) (x2 : Int32) (x5 : Int32) (x6 : Int32) (w3 : Int64) (r0 : Nat) (z : ow_MS) (H : Heap) (locs : List Loc) (ls : Array Slot), cw_X0 r0 → uw_M D vwCl (cX vl) q (tw_A (cX vl) u) s.heap u z H locs → lv_has ls 7 [(0, .ref (u r0)), (1, .int x1), (2, .int x2)] → c_X0_undivided vl K k 0 x1 x2 x5 x6 w3 r0 z = some (r, z1) → W p l e ({ frames := 0, cells := 0, slots := 0, locals := 0 } : Room) s m args below meth c H locs 0 0 QQ (F0 m 0 ls [])) ∧ (∀ (x1 : Int32) (x2 : Int32) (x5 : Int32) (x6 : Int32) (w3 : Int64) (r0 : Nat) (z : ow_MS) (H : Heap) (locs : List Loc) (ls : Array Slot), cw_X0 r0 → uw_M D vwCl (cX vl) q (tw_A (cX vl) u) s.heap u z H locs → lv_has ls 7 [(0, .ref (u r0)), (1, .int x1), (2, .int x2), (3, .long w3), (5, .int x5)] → c_X0_undivided vl K k 1 x1 x2 x5 x6 w3 r0 z = some (r, z1) → W p l e ({ frames := 0, cells := 0, slots := 0, locals := 0 } : Room) s m args below meth c H locs 0 0 QQ (F0 m 14 ls [])) ∧ (∀ (x1 : Int32) (x2 : Int32) (x5 : Int32) (x6 : Int32) (w3 : Int64) (r0 : Nat) (z : ow_MS) (H : Heap) (locs : List Loc) (ls : Array Slot), cw_X0 r0 → uw_M D vwCl (cX vl) q (tw_A (cX vl) u) s.heap u z H locs → lv_has ls 7 [(0, .ref (u r0)), (1, .int x1), (2, .int x2), (3, .long w3), (5, .int x5), (6, .int x6)] → c_X0_undivided vl K k 2 x1 x2 x5 x6 w3 r0 z = some (r, z1) → W p l e ({ frames := 0, cells := 0, slots := 0, locals := 0 } : Room) s m args below meth c H locs 0 0 QQ (F0 m 31 ls [])) := by
    intro k
    induction k with
    | zero => exact ⟨fun _ _ _ _ _ _ _ _ _ _ _ _ _ hq => cw_no hq, fun _ _ _ _ _ _ _ _ _ _ _ _ _ hq => cw_no hq, fun _ _ _ _ _ _ _ _ _ _ _ _ _ hq => cw_no hq⟩
    | succ k ih =>
      obtain ⟨ih_0, ih_1, ih_2⟩ := ih
      refine ⟨?_, ?_, ?_⟩
      · intro x1 x2 x5 x6 w3 r0 z H locs ls hr0 hM hl hq
        have hq : cm_X0_undivided_0 vl K (c_X0_undivided vl K k) x1 x2 x5 x6 w3 r0 z = some (r, z1) := hq
        unfold cm_X0_undivided_0 at hq
        refine lv_aload_n hx hb dcX0_undivided_0 rfl (lv_at hl 0 rfl) ?_
        refine vgX0_17 hx hb hT hown hK hM hr0 dcX0_undivided_1 ?_
        refine lv_iload_n hx hb dcX0_undivided_4 rfl (lv_at hl 1 rfl) ?_
        refine ca_X0_2 hx hb hK hM hr0 hq dcX0_undivided_5 (fun j1 hj1 hq => ?_)
        refine lv_iload_n hx hb dcX0_undivided_6 rfl (lv_at hl 1 rfl) ?_
        refine uw_lald cX_ok hx hb hK hM (cg_X0_2 hr0 hj1) hq dcX0_undivided_7 (fun v2 hq => ?_)
        refine lv_lstore_n (lv' := [(3, .long v2), (0, .ref (u r0)), (1, .int x1), (2, .int x2)]) hx hb dcX0_undivided_8 rfl hl (by decide) rfl (fun ls hl => ?_)
        refine lv_iload_n hx hb dcX0_undivided_9 rfl (lv_at hl 2 rfl) ?_
        refine lv_iconst (v := 1) hx hb dcX0_undivided_10 (by decide) ?_
        refine lv_iadd hx hb dcX0_undivided_11 ?_
        refine lv_istore (lv' := [(5, .int (x1 + 1)), (3, .long v2), (0, .ref (u r0)), (1, .int x1), (2, .int x2)]) hx hb dcX0_undivided_12 hl (by decide) rfl (fun ls hl => ?_)
        exact ih_1 x1 x2 (x1 + 1) 0 v2 r0 z H locs ls hr0 hM (lv_sub hl [2, 3, 4, 1, 0] rfl) hq
      · intro x1 x2 x5 x6 w3 r0 z H locs ls hr0 hM hl hq
        have hq : cm_X0_undivided_1 vl K (c_X0_undivided vl K k) x1 x2 x5 x6 w3 r0 z = some (r, z1) := hq
        unfold cm_X0_undivided_1 at hq
        refine lv_iload hx hb dcX0_undivided_14 (lv_at hl 4 rfl) ?_
        refine lv_iload_n hx hb dcX0_undivided_16 rfl (lv_at hl 2 rfl) ?_
        refine lv_icmp_ge (tgt := 72) hx hb dcX0_undivided_17 (by decide) (fun hc => ?_) (fun hc => ?_)
        · have hq := tw_it hq hc
          refine lv_iconst (v := (-1)) hx hb dcX0_undivided_72 (by decide) ?_
          exact cw_iret hx hb hr hlocks hM hq hQQ dcX0_undivided_73
        · have hq := tw_if hq hc
          refine lv_lload_n hx hb dcX0_undivided_20 rfl (lv_at hl 3 rfl) ?_
          refine lv_lconst (v := 0) hx hb dcX0_undivided_21 rfl ?_
          refine W.lcmp hx hb dcX0_undivided_22 ?_
          refine lv_if_eq (tgt := 72) hx hb dcX0_undivided_23 (by decide) (fun hc => ?_) (fun hc => ?_)
          · have hq := tw_it hq hc
            refine lv_iconst (v := (-1)) hx hb dcX0_undivided_72 (by decide) ?_
            exact cw_iret hx hb hr hlocks hM hq hQQ dcX0_undivided_73
          · have hq := tw_if hq hc
            refine lv_iload_n hx hb dcX0_undivided_26 rfl (lv_at hl 1 rfl) ?_
            refine lv_iconst (v := 1) hx hb dcX0_undivided_27 (by decide) ?_
            refine lv_iadd hx hb dcX0_undivided_28 ?_
            refine lv_istore (lv' := [(6, .int (x1 + 1)), (0, .ref (u r0)), (1, .int x1), (2, .int x2), (3, .long w3), (5, .int x5)]) hx hb dcX0_undivided_29 hl (by decide) rfl (fun ls hl => ?_)
            exact ih_2 x1 x2 x5 (x1 + 1) w3 r0 z H locs ls hr0 hM (lv_sub hl [1, 2, 3, 4, 5, 0] rfl) hq
      · intro x1 x2 x5 x6 w3 r0 z H locs ls hr0 hM hl hq
        have hq : cm_X0_undivided_2 vl K (c_X0_undivided vl K k) x1 x2 x5 x6 w3 r0 z = some (r, z1) := hq
        unfold cm_X0_undivided_2 at hq
        refine lv_iload hx hb dcX0_undivided_31 (lv_at hl 5 rfl) ?_
        refine lv_aload_n hx hb dcX0_undivided_33 rfl (lv_at hl 0 rfl) ?_
        refine vgX0_82 hx hb hT hown hK hM hr0 hq dcX0_undivided_34 (fun v3 hq => ?_)
        refine lv_icmp_ge (tgt := 66) hx hb dcX0_undivided_37 (by decide) (fun hc => ?_) (fun hc => ?_)
        · have hq := tw_it hq hc
          refine lv_iinc (v := (x5 + 1)) (lv' := [(5, .int (x5 + 1)), (0, .ref (u r0)), (1, .int x1), (2, .int x2), (3, .long w3), (6, .int x6)]) hx hb dcX0_undivided_66 hl (k := 4) rfl rfl (by decide) rfl (fun ls hl => ?_)
          refine lv_goto (tgt := 14) hx hb dcX0_undivided_69 (by decide) ?_
          exact ih_1 x1 x2 (x5 + 1) 0 w3 r0 z H locs ls hr0 hM (lv_sub hl [1, 2, 3, 4, 0] rfl) hq
        · have hq := tw_if hq hc
          refine lv_aload_n hx hb dcX0_undivided_40 rfl (lv_at hl 0 rfl) ?_
          refine vgX0_17 hx hb hT hown hK hM hr0 dcX0_undivided_41 ?_
          refine lv_iload hx hb dcX0_undivided_44 (lv_at hl 4 rfl) ?_
          refine ca_X0_2 hx hb hK hM hr0 hq dcX0_undivided_46 (fun j4 hj4 hq => ?_)
          refine lv_iload hx hb dcX0_undivided_47 (lv_at hl 5 rfl) ?_
          refine uw_lald cX_ok hx hb hK hM (cg_X0_2 hr0 hj4) hq dcX0_undivided_49 (fun v5 hq => ?_)
          refine lv_lload_n hx hb dcX0_undivided_50 rfl (lv_at hl 3 rfl) ?_
          obtain ⟨hz, hq⟩ := tw_nzJ hq
          refine lv_lrem hx hb dcX0_undivided_51 hz ?_
          refine lv_lconst (v := 0) hx hb dcX0_undivided_52 rfl ?_
          refine W.lcmp hx hb dcX0_undivided_53 ?_
          refine lv_if_eq (tgt := 60) hx hb dcX0_undivided_54 (by decide) (fun hc => ?_) (fun hc => ?_)
          · have hq := tw_it hq hc
            refine lv_iinc (v := (x6 + 1)) (lv' := [(6, .int (x6 + 1)), (0, .ref (u r0)), (1, .int x1), (2, .int x2), (3, .long w3), (5, .int x5)]) hx hb dcX0_undivided_60 hl (k := 5) rfl rfl (by decide) rfl (fun ls hl => ?_)
            refine lv_goto (tgt := 31) hx hb dcX0_undivided_63 (by decide) ?_
            exact ih_2 x1 x2 x5 (x6 + 1) w3 r0 z H locs ls hr0 hM (lv_sub hl [1, 2, 3, 4, 5, 0] rfl) hq
          · have hq := tw_if hq hc
            refine lv_iload hx hb dcX0_undivided_57 (lv_at hl 4 rfl) ?_
            exact cw_iret hx hb hr hlocks hM hq hQQ dcX0_undivided_59
  exact (key K).1 x1 x2 0 0 0 r0 z s.heap [] ls hr0 hM (lv_sub hl [0, 1, 2] rfl) hq
theorem dcX0_isolate_0 : decode cX0_isolate 0 = .ok (.iconst 0, 1) := dw_at cX0_isolate_k0 (p := 0) rfl (by decide +kernel)
theorem dcX0_isolate_1 : decode cX0_isolate 1 = .ok (.istore_n 3, 1) := dw_at cX0_isolate_k0 (p := 1) rfl (by decide +kernel)
theorem dcX0_isolate_2 : decode cX0_isolate 2 = .ok (.iload_n 3, 1) := dw_at cX0_isolate_k0 (p := 2) rfl (by decide +kernel)
theorem dcX0_isolate_3 : decode cX0_isolate 3 = .ok (.sipush 1000, 3) := dw_at cX0_isolate_k0 (p := 3) rfl (by decide +kernel)
theorem dcX0_isolate_6 : decode cX0_isolate 6 = .ok (.if_icmp .ge 95, 3) := dw_at cX0_isolate_k0 (p := 6) rfl (by decide +kernel)
theorem dcX0_isolate_9 : decode cX0_isolate 9 = .ok (.aload_n 0, 1) := dw_at cX0_isolate_k0 (p := 9) rfl (by decide +kernel)
theorem dcX0_isolate_10 : decode cX0_isolate 10 = .ok (.iload_n 1, 1) := dw_at cX0_isolate_k0 (p := 10) rfl (by decide +kernel)
theorem dcX0_isolate_11 : decode cX0_isolate 11 = .ok (.iload_n 2, 1) := dw_at cX0_isolate_k0 (p := 11) rfl (by decide +kernel)
theorem dcX0_isolate_12 : decode cX0_isolate 12 = .ok (.invokevirtual 116, 3) := dw_at cX0_isolate_k0 (p := 12) rfl (by decide +kernel)
theorem dcX0_isolate_15 : decode cX0_isolate 15 = .ok (.ifCond .ne 5, 3) := dw_at cX0_isolate_k0 (p := 15) rfl (by decide +kernel)
theorem dcX0_isolate_18 : decode cX0_isolate 18 = .ok (.iconst 0, 1) := dw_at cX0_isolate_k0 (p := 18) rfl (by decide +kernel)
theorem dcX0_isolate_19 : decode cX0_isolate 19 = .ok (.ireturn, 1) := dw_at cX0_isolate_k0 (p := 19) rfl (by decide +kernel)
theorem dcX0_isolate_20 : decode cX0_isolate 20 = .ok (.aload_n 0, 1) := dw_at cX0_isolate_k0 (p := 20) rfl (by decide +kernel)
theorem dcX0_isolate_21 : decode cX0_isolate 21 = .ok (.iload_n 1, 1) := dw_at cX0_isolate_k0 (p := 21) rfl (by decide +kernel)
theorem dcX0_isolate_22 : decode cX0_isolate 22 = .ok (.iload_n 2, 1) := dw_at cX0_isolate_k0 (p := 22) rfl (by decide +kernel)
theorem dcX0_isolate_23 : decode cX0_isolate 23 = .ok (.invokevirtual 119, 3) := dw_at cX0_isolate_k0 (p := 23) rfl (by decide +kernel)
theorem dcX0_isolate_26 : decode cX0_isolate 26 = .ok (.ifCond .ne 6, 3) := dw_at cX0_isolate_k1 (p := 0) rfl (by decide +kernel)
theorem dcX0_isolate_29 : decode cX0_isolate 29 = .ok (.goto 66, 3) := dw_at cX0_isolate_k1 (p := 3) rfl (by decide +kernel)
theorem dcX0_isolate_32 : decode cX0_isolate 32 = .ok (.aload_n 0, 1) := dw_at cX0_isolate_k1 (p := 6) rfl (by decide +kernel)
theorem dcX0_isolate_33 : decode cX0_isolate 33 = .ok (.iload_n 1, 1) := dw_at cX0_isolate_k1 (p := 7) rfl (by decide +kernel)
theorem dcX0_isolate_34 : decode cX0_isolate 34 = .ok (.iload_n 2, 1) := dw_at cX0_isolate_k1 (p := 8) rfl (by decide +kernel)
theorem dcX0_isolate_35 : decode cX0_isolate 35 = .ok (.invokevirtual 122, 3) := dw_at cX0_isolate_k1 (p := 9) rfl (by decide +kernel)
theorem dcX0_isolate_38 : decode cX0_isolate 38 = .ok (.istore 4, 2) := dw_at cX0_isolate_k1 (p := 12) rfl (by decide +kernel)
theorem dcX0_isolate_40 : decode cX0_isolate 40 = .ok (.iload 4, 2) := dw_at cX0_isolate_k1 (p := 14) rfl (by decide +kernel)
theorem dcX0_isolate_42 : decode cX0_isolate 42 = .ok (.iconst (-1), 1) := dw_at cX0_isolate_k1 (p := 16) rfl (by decide +kernel)
theorem dcX0_isolate_43 : decode cX0_isolate 43 = .ok (.if_icmp .ne 5, 3) := dw_at cX0_isolate_k1 (p := 17) rfl (by decide +kernel)
theorem dcX0_isolate_46 : decode cX0_isolate 46 = .ok (.iconst 1, 1) := dw_at cX0_isolate_k1 (p := 20) rfl (by decide +kernel)
theorem dcX0_isolate_47 : decode cX0_isolate 47 = .ok (.ireturn, 1) := dw_at cX0_isolate_k1 (p := 21) rfl (by decide +kernel)
theorem dcX0_isolate_48 : decode cX0_isolate 48 = .ok (.iload_n 1, 1) := dw_at cX0_isolate_k1 (p := 22) rfl (by decide +kernel)
theorem dcX0_isolate_49 : decode cX0_isolate 49 = .ok (.istore 5, 2) := dw_at cX0_isolate_k1 (p := 23) rfl (by decide +kernel)
theorem dcX0_isolate_51 : decode cX0_isolate 51 = .ok (.iload 5, 2) := dw_at cX0_isolate_k2 (p := 0) rfl (by decide +kernel)
theorem dcX0_isolate_53 : decode cX0_isolate 53 = .ok (.aload_n 0, 1) := dw_at cX0_isolate_k2 (p := 2) rfl (by decide +kernel)
theorem dcX0_isolate_54 : decode cX0_isolate 54 = .ok (.getfield 82, 3) := dw_at cX0_isolate_k2 (p := 3) rfl (by decide +kernel)
theorem dcX0_isolate_57 : decode cX0_isolate 57 = .ok (.if_icmp .ge 31, 3) := dw_at cX0_isolate_k2 (p := 6) rfl (by decide +kernel)
theorem dcX0_isolate_60 : decode cX0_isolate 60 = .ok (.aload_n 0, 1) := dw_at cX0_isolate_k2 (p := 9) rfl (by decide +kernel)
theorem dcX0_isolate_61 : decode cX0_isolate 61 = .ok (.getfield 17, 3) := dw_at cX0_isolate_k2 (p := 10) rfl (by decide +kernel)
theorem dcX0_isolate_64 : decode cX0_isolate 64 = .ok (.iload_n 1, 1) := dw_at cX0_isolate_k2 (p := 13) rfl (by decide +kernel)
theorem dcX0_isolate_65 : decode cX0_isolate 65 = .ok (.aaload, 1) := dw_at cX0_isolate_k2 (p := 14) rfl (by decide +kernel)
theorem dcX0_isolate_66 : decode cX0_isolate 66 = .ok (.iload 5, 2) := dw_at cX0_isolate_k2 (p := 15) rfl (by decide +kernel)
theorem dcX0_isolate_68 : decode cX0_isolate 68 = .ok (.dup2, 1) := dw_at cX0_isolate_k2 (p := 17) rfl (by decide +kernel)
theorem dcX0_isolate_69 : decode cX0_isolate 69 = .ok (.laload, 1) := dw_at cX0_isolate_k2 (p := 18) rfl (by decide +kernel)
theorem dcX0_isolate_70 : decode cX0_isolate 70 = .ok (.aload_n 0, 1) := dw_at cX0_isolate_k2 (p := 19) rfl (by decide +kernel)
theorem dcX0_isolate_71 : decode cX0_isolate 71 = .ok (.getfield 17, 3) := dw_at cX0_isolate_k2 (p := 20) rfl (by decide +kernel)
theorem dcX0_isolate_74 : decode cX0_isolate 74 = .ok (.iload 4, 2) := dw_at cX0_isolate_k2 (p := 23) rfl (by decide +kernel)
theorem dcX0_isolate_76 : decode cX0_isolate 76 = .ok (.aaload, 1) := dw_at cX0_isolate_k3 (p := 0) rfl (by decide +kernel)
theorem dcX0_isolate_77 : decode cX0_isolate 77 = .ok (.iload 5, 2) := dw_at cX0_isolate_k3 (p := 1) rfl (by decide +kernel)
theorem dcX0_isolate_79 : decode cX0_isolate 79 = .ok (.laload, 1) := dw_at cX0_isolate_k3 (p := 3) rfl (by decide +kernel)
theorem dcX0_isolate_80 : decode cX0_isolate 80 = .ok (.ladd, 1) := dw_at cX0_isolate_k3 (p := 4) rfl (by decide +kernel)
theorem dcX0_isolate_81 : decode cX0_isolate 81 = .ok (.lastore, 1) := dw_at cX0_isolate_k3 (p := 5) rfl (by decide +kernel)
theorem dcX0_isolate_82 : decode cX0_isolate 82 = .ok (.iinc 5 1, 3) := dw_at cX0_isolate_k3 (p := 6) rfl (by decide +kernel)
theorem dcX0_isolate_85 : decode cX0_isolate 85 = .ok (.goto (-34), 3) := dw_at cX0_isolate_k3 (p := 9) rfl (by decide +kernel)
theorem dcX0_isolate_88 : decode cX0_isolate 88 = .ok (.aload_n 0, 1) := dw_at cX0_isolate_k3 (p := 12) rfl (by decide +kernel)
theorem dcX0_isolate_89 : decode cX0_isolate 89 = .ok (.iload_n 1, 1) := dw_at cX0_isolate_k3 (p := 13) rfl (by decide +kernel)
theorem dcX0_isolate_90 : decode cX0_isolate 90 = .ok (.iload_n 2, 1) := dw_at cX0_isolate_k3 (p := 14) rfl (by decide +kernel)
theorem dcX0_isolate_91 : decode cX0_isolate 91 = .ok (.invokevirtual 119, 3) := dw_at cX0_isolate_k3 (p := 15) rfl (by decide +kernel)
theorem dcX0_isolate_94 : decode cX0_isolate 94 = .ok (.pop, 1) := dw_at cX0_isolate_k3 (p := 18) rfl (by decide +kernel)
theorem dcX0_isolate_95 : decode cX0_isolate 95 = .ok (.iinc 3 1, 3) := dw_at cX0_isolate_k3 (p := 19) rfl (by decide +kernel)
theorem dcX0_isolate_98 : decode cX0_isolate 98 = .ok (.goto (-96), 3) := dw_at cX0_isolate_k3 (p := 22) rfl (by decide +kernel)
theorem dcX0_isolate_101 : decode cX0_isolate 101 = .ok (.iconst 1, 1) := dw_at cX0_isolate_k3 (p := 25) rfl (by decide +kernel)
theorem dcX0_isolate_102 : decode cX0_isolate 102 = .ok (.ireturn, 1) := dw_at cX0_isolate_k3 (p := 26) rfl (by decide +kernel)
def cm_X0_isolate_0 (vl : Nat → Nat) (K : Nat) (go : Nat → Int32 → Int32 → Int32 → Int32 → Int32 → Nat → ow_MS → Option (Int32 × ow_MS)) (x1 : Int32) (x2 : Int32) (x3 : Int32) (x4 : Int32) (x5 : Int32) (r0 : Nat) (z : ow_MS) : Option (Int32 × ow_MS) :=
 go 1 x1 x2 0 0 0 r0 z
def cm_X0_isolate_1 (vl : Nat → Nat) (K : Nat) (go : Nat → Int32 → Int32 → Int32 → Int32 → Int32 → Nat → ow_MS → Option (Int32 × ow_MS)) (x1 : Int32) (x2 : Int32) (x3 : Int32) (x4 : Int32) (x5 : Int32) (r0 : Nat) (z : ow_MS) : Option (Int32 × ow_MS) :=
 (if 1000 ≤ x3 then okZ 1 (some (1, z))
 else cs1 (ce_X0_bringLeast vl K r0 x1 x2 z) fun v2 z1 => (if v2 = 0 then okZ 0 (some (0, z1))
 else cs1 (ce_X0_clearCross vl K r0 x1 x2 z1) fun v4 z3 => (if v4 = 0 then go 3 x1 x2 x3 0 0 r0 z3
 else cs1 (ce_X0_undivided vl K r0 x1 x2 z3) fun v6 z5 => (if v6 = (-1) then okZ 1 (some (1, z5))
 else go 2 x1 x2 x3 v6 x1 r0 z5))))
def cm_X0_isolate_2 (vl : Nat → Nat) (K : Nat) (go : Nat → Int32 → Int32 → Int32 → Int32 → Int32 → Nat → ow_MS → Option (Int32 × ow_MS)) (x1 : Int32) (x2 : Int32) (x3 : Int32) (x4 : Int32) (x5 : Int32) (r0 : Nat) (z : ow_MS) : Option (Int32 × ow_MS) :=
 rdF z (r0 + 2) fun v7 => (if v7 ≤ x5 then cs1 (ce_X0_clearCross vl K r0 x1 x2 z) fun v9 z8 => go 3 x1 x2 x3 0 0 r0 z8
 else crX 12 x1 fun j10 => crJ (cX vl) z (r0 + 1001 + j10) x5 fun v11 => crX 12 x4 fun j12 => crJ (cX vl) z (r0 + 1001 + j12) x5 fun v13 => ctJ (cX vl) z (r0 + 1001 + j10) x5 (v11 + v13) fun z14 => go 2 x1 x2 x3 x4 (x5 + 1) r0 z14)
def cm_X0_isolate_3 (vl : Nat → Nat) (K : Nat) (go : Nat → Int32 → Int32 → Int32 → Int32 → Int32 → Nat → ow_MS → Option (Int32 × ow_MS)) (x1 : Int32) (x2 : Int32) (x3 : Int32) (x4 : Int32) (x5 : Int32) (r0 : Nat) (z : ow_MS) : Option (Int32 × ow_MS) :=
 go 1 x1 x2 (x3 + 1) 0 0 r0 z
def cb_X0_isolate (vl : Nat → Nat) (K : Nat) (go : Nat → Int32 → Int32 → Int32 → Int32 → Int32 → Nat → ow_MS → Option (Int32 × ow_MS)) (L : Nat) (x1 : Int32) (x2 : Int32) (x3 : Int32) (x4 : Int32) (x5 : Int32) (r0 : Nat) (z : ow_MS) : Option (Int32 × ow_MS) := match L with
  | 0 => cm_X0_isolate_0 vl K go x1 x2 x3 x4 x5 r0 z
  | 1 => cm_X0_isolate_1 vl K go x1 x2 x3 x4 x5 r0 z
  | 2 => cm_X0_isolate_2 vl K go x1 x2 x3 x4 x5 r0 z
  | 3 => cm_X0_isolate_3 vl K go x1 x2 x3 x4 x5 r0 z
  | _ => none
def c_X0_isolate (vl : Nat → Nat) (K : Nat) : Nat → Nat → Int32 → Int32 → Int32 → Int32 → Int32 → Nat → ow_MS → Option (Int32 × ow_MS)
  | 0 => fun _ _ _ _ _ _ _ _ => none
  | k + 1 => cb_X0_isolate vl K (c_X0_isolate vl K k)
def ce_X0_isolate (vl : Nat → Nat) (K : Nat) (r0 : Nat) (x1 : Int32) (x2 : Int32) (z : ow_MS) : Option (Int32 × ow_MS) := c_X0_isolate vl K K 0 x1 x2 0 0 0 r0 z
abbrev wc_X0_isolate : List Cond := .code yX0_isolate cX0_isolate 6 (some .boolean) :: wC
theorem cdd_X0_isolate : yX0_isolate.cls = RX0 ∧ yX0_isolate.cls ≠ "java/lang/invoke/MethodHandle" ∧ yX0_isolate.cls ≠ "java/lang/invoke/VarHandle" ∧ (parseMethodDescriptor yX0_isolate.desc).map (fun d => d.parameters.length) = some 2 := by decide +kernel
set_option maxHeartbeats 4000000 in
set_option maxRecDepth 100000 in
theorem kc_X0_isolate (l : Launch) (D : va_G) (q : Nat → ClassId) (vl u : Nat → Nat) (hU0 : tw_inj (cX vl) u) (K : Nat) (r0 : Nat) (x1 : Int32) (x2 : Int32) (hr0 : cw_X0 r0) (z z1 : ow_MS) (r : Int32) (hq : ce_X0_isolate vl K r0 x1 x2 z = some (r, z1)) : Met l yX0_isolate wc_X0_isolate ({ frames := 2, cells := 0, slots := 0, locals := 59 } : Room) (va_Pc [.ref (u r0), .int x1, .int x2] (cw_pre D q vl u z)) (va_Qi (fun x (_ : Unit) => x = r) (fun _ t => va_P D vwCl (uw (cX vl) q u z1) t.heap) (tw_A (cX vl) u)) 0 0 (tw_A (cX vl) u) := by
  refine Met.ofW (cc := cX0_isolate) (maxL := 6) (ret := (some .boolean)) (by decide) rfl ?_
  intro p e s m args below meth c s₁ B hml hv
  obtain ⟨rfl, hP, hK⟩ := hv
  have hx := B.exec
  have hb := B.bytes
  have hr := B.returns
  have hts := atoms_spec (ws := wc_X0_isolate) B.pre
  have hT : ∀ w ∈ wC, w.before ([.ref (u r0), .int x1, .int x2] : List Value).toArray s = true := fun w h => hts w (List.mem_cons_of_mem _ h)
  have hown : s.vm.findClass RX0 = some m.cls := findClass_of_methodNamed B.named
  have hlocks := B.notSynchronized
  have hU : uw_inj (cX vl) u (tw_A (cX vl) u) := ⟨hU0, fun h hh => ⟨h, hh, rfl⟩⟩
  have hM : uw_M D vwCl (cX vl) q (tw_A (cX vl) u) s.heap u z s.heap [] := ⟨hP, va_S.rf⟩
  have hl := lv_entry ([.ref (u r0), .int x1, .int x2]) (n := 6) (Nat.le_of_ble_eq_true rfl)
  rw [lg_entry_eq]
  generalize (lg_sl ([.ref (u r0), .int x1, .int x2]) ++ List.replicate (6 - (lg_sl ([.ref (u r0), .int x1, .int x2])).length) Slot.unset).toArray = ls at hl ⊢
  have hl : lv_has ls 6 [(0, .ref (u r0)), (1, .int x1), (2, .int x2)] := hl
  refine ow_named (fun QQ hQQ => ?_)
  generalize ([.ref (u r0), .int x1, .int x2] : List Value).toArray = args at hts hT hQQ ⊢
  have key : ∀ k : Nat, (∀ (x1 : Int32) (x2 : Int32) (x3 : Int32) (x4 : Int32) (x5 : Int32) (r0 : Nat) (z : ow_MS) (H : Heap) (locs : List Loc) (ls : Array Slot), cw_X0 r0 → uw_M D vwCl (cX vl) q (tw_A (cX vl) u) s.heap u z H locs → lv_has ls 6 [(0, .ref (u r0)), (1, .int x1), (2, .int x2)] → c_X0_isolate vl K k 0 x1 x2 x3 x4 x5 r0 z = some (r, z1) → W p l e ({ frames := 2, cells := 0, slots := 0, locals := 59 } : Room) s m args below meth c H locs 0 0 QQ (F0 m 0 ls [])) ∧ (∀ (x1 : Int32) (x2 : Int32) (x3 : Int32) (x4 : Int32) (x5 : Int32) (r0 : Nat) (z : ow_MS) (H : Heap) (locs : List Loc) (ls : Array Slot), cw_X0 r0 → uw_M D vwCl (cX vl) q (tw_A (cX vl) u) s.heap u z H locs → lv_has ls 6 [(0, .ref (u r0)), (1, .int x1), (2, .int x2), (3, .int x3)] → c_X0_isolate vl K k 1 x1 x2 x3 x4 x5 r0 z = some (r, z1) → W p l e ({ frames := 2, cells := 0, slots := 0, locals := 59 } : Room) s m args below meth c H locs 0 0 QQ (F0 m 2 ls [])) ∧ (∀ (x1 : Int32) (x2 : Int32) (x3 : Int32) (x4 : Int32) (x5 : Int32) (r0 : Nat) (z : ow_MS) (H : Heap) (locs : List Loc) (ls : Array Slot), cw_X0 r0 → uw_M D vwCl (cX vl) q (tw_A (cX vl) u) s.heap u z H locs → lv_has ls 6 [(0, .ref (u r0)), (1, .int x1), (2, .int x2), (3, .int x3), (4, .int x4), (5, .int x5)] → c_X0_isolate vl K k 2 x1 x2 x3 x4 x5 r0 z = some (r, z1) → W p l e ({ frames := 2, cells := 0, slots := 0, locals := 59 } : Room) s m args below meth c H locs 0 0 QQ (F0 m 51 ls [])) ∧ (∀ (x1 : Int32) (x2 : Int32) (x3 : Int32) (x4 : Int32) (x5 : Int32) (r0 : Nat) (z : ow_MS) (H : Heap) (locs : List Loc) (ls : Array Slot), cw_X0 r0 → uw_M D vwCl (cX vl) q (tw_A (cX vl) u) s.heap u z H locs → lv_has ls 6 [(0, .ref (u r0)), (1, .int x1), (2, .int x2), (3, .int x3)] → c_X0_isolate vl K k 3 x1 x2 x3 x4 x5 r0 z = some (r, z1) → W p l e ({ frames := 2, cells := 0, slots := 0, locals := 59 } : Room) s m args below meth c H locs 0 0 QQ (F0 m 95 ls [])) := by
    intro k
    induction k with
    | zero => exact ⟨fun _ _ _ _ _ _ _ _ _ _ _ _ _ hq => cw_no hq, fun _ _ _ _ _ _ _ _ _ _ _ _ _ hq => cw_no hq, fun _ _ _ _ _ _ _ _ _ _ _ _ _ hq => cw_no hq, fun _ _ _ _ _ _ _ _ _ _ _ _ _ hq => cw_no hq⟩
    | succ k ih =>
      obtain ⟨ih_0, ih_1, ih_2, ih_3⟩ := ih
      refine ⟨?_, ?_, ?_, ?_⟩
      · intro x1 x2 x3 x4 x5 r0 z H locs ls hr0 hM hl hq
        have hq : cm_X0_isolate_0 vl K (c_X0_isolate vl K k) x1 x2 x3 x4 x5 r0 z = some (r, z1) := hq
        unfold cm_X0_isolate_0 at hq
        refine lv_iconst (v := 0) hx hb dcX0_isolate_0 (by decide) ?_
        refine lv_istore_n (lv' := [(3, .int 0), (0, .ref (u r0)), (1, .int x1), (2, .int x2)]) hx hb dcX0_isolate_1 rfl hl (by decide) rfl (fun ls hl => ?_)
        exact ih_1 x1 x2 0 0 0 r0 z H locs ls hr0 hM (lv_sub hl [1, 2, 3, 0] rfl) hq
      · intro x1 x2 x3 x4 x5 r0 z H locs ls hr0 hM hl hq
        have hq : cm_X0_isolate_1 vl K (c_X0_isolate vl K k) x1 x2 x3 x4 x5 r0 z = some (r, z1) := hq
        unfold cm_X0_isolate_1 at hq
        refine lv_iload_n hx hb dcX0_isolate_2 rfl (lv_at hl 3 rfl) ?_
        refine lv_sipush (v := 1000) hx hb dcX0_isolate_3 (by decide) ?_
        refine lv_icmp_ge (tgt := 101) hx hb dcX0_isolate_6 (by decide) (fun hc => ?_) (fun hc => ?_)
        · have hq := tw_it hq hc
          refine lv_iconst (v := 1) hx hb dcX0_isolate_101 (by decide) ?_
          obtain ⟨hz, hq⟩ := tw_gZ hq
          exact cw_zret hx hb hr hlocks hM hz hq hQQ dcX0_isolate_102
        · have hq := tw_if hq hc
          refine lv_aload_n hx hb dcX0_isolate_9 rfl (lv_at hl 0 rfl) ?_
          refine lv_iload_n hx hb dcX0_isolate_10 rfl (lv_at hl 1 rfl) ?_
          refine lv_iload_n hx hb dcX0_isolate_11 rfl (lv_at hl 2 rfl) ?_
          obtain ⟨v2, z1, hcq, hq⟩ := tw_cl1 hq
          refine uw_cali hU hM (va_runV (As := [.int x1, .int x2]) (rest := []) ⟨hx, hb, hml, hown, hts⟩ (kc_X0_bringLeast l D q vl u hU.1 K r0 x1 x2 hr0 z z1 v2 hcq) (cwV 2 hts (tw_gV wC_good xq_32 xq_33 xq_34 xq_24 xq_35) rfl rfl rfl cdd_X0_bringLeast ⟨(Nat.le_of_ble_eq_true rfl), (Nat.le_of_ble_eq_true rfl)⟩) (cw_preV hK hM (co_X0 hr0) rfl) rfl rfl hl.1 rfl (lv_room (Nat.le_of_ble_eq_true rfl)) dcX0_isolate_12 ⟨(Nat.le_of_ble_eq_true rfl), (Nat.le_of_ble_eq_true rfl)⟩) (fun H locs hM => ?_)
          refine lv_if_ne (tgt := 20) hx hb dcX0_isolate_15 (by decide) (fun hc => ?_) (fun hc => ?_)
          · have hq := tw_if hq hc
            refine lv_aload_n hx hb dcX0_isolate_20 rfl (lv_at hl 0 rfl) ?_
            refine lv_iload_n hx hb dcX0_isolate_21 rfl (lv_at hl 1 rfl) ?_
            refine lv_iload_n hx hb dcX0_isolate_22 rfl (lv_at hl 2 rfl) ?_
            obtain ⟨v4, z3, hcq, hq⟩ := tw_cl1 hq
            refine uw_cali hU hM (va_runV (As := [.int x1, .int x2]) (rest := []) ⟨hx, hb, hml, hown, hts⟩ (kc_X0_clearCross l D q vl u hU.1 K r0 x1 x2 hr0 z1 z3 v4 hcq) (cwV 2 hts (tw_gV wC_good xq_36 xq_37 xq_38 xq_24 xq_39) rfl rfl rfl cdd_X0_clearCross ⟨(Nat.le_of_ble_eq_true rfl), (Nat.le_of_ble_eq_true rfl)⟩) (cw_preV hK hM (co_X0 hr0) rfl) rfl rfl hl.1 rfl (lv_room (Nat.le_of_ble_eq_true rfl)) dcX0_isolate_23 ⟨(Nat.le_of_ble_eq_true rfl), (Nat.le_of_ble_eq_true rfl)⟩) (fun H locs hM => ?_)
            refine lv_if_ne (tgt := 32) hx hb dcX0_isolate_26 (by decide) (fun hc => ?_) (fun hc => ?_)
            · have hq := tw_if hq hc
              refine lv_aload_n hx hb dcX0_isolate_32 rfl (lv_at hl 0 rfl) ?_
              refine lv_iload_n hx hb dcX0_isolate_33 rfl (lv_at hl 1 rfl) ?_
              refine lv_iload_n hx hb dcX0_isolate_34 rfl (lv_at hl 2 rfl) ?_
              obtain ⟨v6, z5, hcq, hq⟩ := tw_cl1 hq
              refine uw_cali hU hM (va_runV (As := [.int x1, .int x2]) (rest := []) ⟨hx, hb, hml, hown, hts⟩ (kc_X0_undivided l D q vl u hU.1 K r0 x1 x2 hr0 z3 z5 v6 hcq) (cwV 2 hts (tw_gV wC_good xq_40 xq_41 xq_42 xq_24 xq_43) rfl rfl rfl cdd_X0_undivided ⟨(Nat.le_of_ble_eq_true rfl), (Nat.le_of_ble_eq_true rfl)⟩) (cw_preV hK hM (co_X0 hr0) rfl) rfl rfl hl.1 rfl (lv_room (Nat.le_of_ble_eq_true rfl)) dcX0_isolate_35 ⟨(Nat.le_of_ble_eq_true rfl), (Nat.le_of_ble_eq_true rfl)⟩) (fun H locs hM => ?_)
              refine lv_istore (lv' := [(4, .int v6), (0, .ref (u r0)), (1, .int x1), (2, .int x2), (3, .int x3)]) hx hb dcX0_isolate_38 hl (by decide) rfl (fun ls hl => ?_)
              refine lv_iload hx hb dcX0_isolate_40 (lv_at hl 0 rfl) ?_
              refine lv_iconst (v := (-1)) hx hb dcX0_isolate_42 (by decide) ?_
              refine lv_icmp_ne (tgt := 48) hx hb dcX0_isolate_43 (by decide) (fun hc => ?_) (fun hc => ?_)
              · have hq := tw_if hq hc
                refine lv_iload_n hx hb dcX0_isolate_48 rfl (lv_at hl 2 rfl) ?_
                refine lv_istore (lv' := [(5, .int x1), (4, .int v6), (0, .ref (u r0)), (1, .int x1), (2, .int x2), (3, .int x3)]) hx hb dcX0_isolate_49 hl (by decide) rfl (fun ls hl => ?_)
                exact ih_2 x1 x2 x3 v6 x1 r0 z5 H locs ls hr0 hM (lv_sub hl [2, 3, 4, 5, 1, 0] rfl) hq
              · have hq := tw_it hq hc
                refine lv_iconst (v := 1) hx hb dcX0_isolate_46 (by decide) ?_
                obtain ⟨hz, hq⟩ := tw_gZ hq
                exact cw_zret hx hb hr hlocks hM hz hq hQQ dcX0_isolate_47
            · have hq := tw_it hq hc
              refine lv_goto (tgt := 95) hx hb dcX0_isolate_29 (by decide) ?_
              exact ih_3 x1 x2 x3 0 0 r0 z3 H locs ls hr0 hM (lv_sub hl [0, 1, 2, 3] rfl) hq
          · have hq := tw_it hq hc
            refine lv_iconst (v := 0) hx hb dcX0_isolate_18 (by decide) ?_
            obtain ⟨hz, hq⟩ := tw_gZ hq
            exact cw_zret hx hb hr hlocks hM hz hq hQQ dcX0_isolate_19
      · intro x1 x2 x3 x4 x5 r0 z H locs ls hr0 hM hl hq
        have hq : cm_X0_isolate_2 vl K (c_X0_isolate vl K k) x1 x2 x3 x4 x5 r0 z = some (r, z1) := hq
        unfold cm_X0_isolate_2 at hq
        refine lv_iload hx hb dcX0_isolate_51 (lv_at hl 5 rfl) ?_
        refine lv_aload_n hx hb dcX0_isolate_53 rfl (lv_at hl 0 rfl) ?_
        refine vgX0_82 hx hb hT hown hK hM hr0 hq dcX0_isolate_54 (fun v7 hq => ?_)
        refine lv_icmp_ge (tgt := 88) hx hb dcX0_isolate_57 (by decide) (fun hc => ?_) (fun hc => ?_)
        · have hq := tw_it hq hc
          refine lv_aload_n hx hb dcX0_isolate_88 rfl (lv_at hl 0 rfl) ?_
          refine lv_iload_n hx hb dcX0_isolate_89 rfl (lv_at hl 1 rfl) ?_
          refine lv_iload_n hx hb dcX0_isolate_90 rfl (lv_at hl 2 rfl) ?_
          obtain ⟨v9, z8, hcq, hq⟩ := tw_cl1 hq
          refine uw_cali hU hM (va_runV (As := [.int x1, .int x2]) (rest := []) ⟨hx, hb, hml, hown, hts⟩ (kc_X0_clearCross l D q vl u hU.1 K r0 x1 x2 hr0 z z8 v9 hcq) (cwV 2 hts (tw_gV wC_good xq_36 xq_37 xq_38 xq_24 xq_39) rfl rfl rfl cdd_X0_clearCross ⟨(Nat.le_of_ble_eq_true rfl), (Nat.le_of_ble_eq_true rfl)⟩) (cw_preV hK hM (co_X0 hr0) rfl) rfl rfl hl.1 rfl (lv_room (Nat.le_of_ble_eq_true rfl)) dcX0_isolate_91 ⟨(Nat.le_of_ble_eq_true rfl), (Nat.le_of_ble_eq_true rfl)⟩) (fun H locs hM => ?_)
          refine lv_pop hx hb dcX0_isolate_94 rfl ?_
          exact ih_3 x1 x2 x3 0 0 r0 z8 H locs ls hr0 hM (lv_sub hl [0, 1, 2, 3] rfl) hq
        · have hq := tw_if hq hc
          refine lv_aload_n hx hb dcX0_isolate_60 rfl (lv_at hl 0 rfl) ?_
          refine vgX0_17 hx hb hT hown hK hM hr0 dcX0_isolate_61 ?_
          refine lv_iload_n hx hb dcX0_isolate_64 rfl (lv_at hl 1 rfl) ?_
          refine ca_X0_2 hx hb hK hM hr0 hq dcX0_isolate_65 (fun j10 hj10 hq => ?_)
          refine lv_iload hx hb dcX0_isolate_66 (lv_at hl 5 rfl) ?_
          refine lv_dup2_11 hx hb dcX0_isolate_68 rfl rfl ?_
          refine uw_lald cX_ok hx hb hK hM (cg_X0_2 hr0 hj10) hq dcX0_isolate_69 (fun v11 hq => ?_)
          refine lv_aload_n hx hb dcX0_isolate_70 rfl (lv_at hl 0 rfl) ?_
          refine vgX0_17 hx hb hT hown hK hM hr0 dcX0_isolate_71 ?_
          refine lv_iload hx hb dcX0_isolate_74 (lv_at hl 4 rfl) ?_
          refine ca_X0_2 hx hb hK hM hr0 hq dcX0_isolate_76 (fun j12 hj12 hq => ?_)
          refine lv_iload hx hb dcX0_isolate_77 (lv_at hl 5 rfl) ?_
          refine uw_lald cX_ok hx hb hK hM (cg_X0_2 hr0 hj12) hq dcX0_isolate_79 (fun v13 hq => ?_)
          refine lv_ladd hx hb dcX0_isolate_80 ?_
          refine uw_last cX_ok hU hx hb hK hM (cg_X0_2 hr0 hj10) hq dcX0_isolate_81 (fun z14 H locs hM hq => ?_)
          refine lv_iinc (v := (x5 + 1)) (lv' := [(5, .int (x5 + 1)), (0, .ref (u r0)), (1, .int x1), (2, .int x2), (3, .int x3), (4, .int x4)]) hx hb dcX0_isolate_82 hl (k := 5) rfl rfl (by decide) rfl (fun ls hl => ?_)
          refine lv_goto (tgt := 51) hx hb dcX0_isolate_85 (by decide) ?_
          exact ih_2 x1 x2 x3 x4 (x5 + 1) r0 z14 H locs ls hr0 hM (lv_sub hl [1, 2, 3, 4, 5, 0] rfl) hq
      · intro x1 x2 x3 x4 x5 r0 z H locs ls hr0 hM hl hq
        have hq : cm_X0_isolate_3 vl K (c_X0_isolate vl K k) x1 x2 x3 x4 x5 r0 z = some (r, z1) := hq
        unfold cm_X0_isolate_3 at hq
        refine lv_iinc (v := (x3 + 1)) (lv' := [(3, .int (x3 + 1)), (0, .ref (u r0)), (1, .int x1), (2, .int x2)]) hx hb dcX0_isolate_95 hl (k := 3) rfl rfl (by decide) rfl (fun ls hl => ?_)
        refine lv_goto (tgt := 2) hx hb dcX0_isolate_98 (by decide) ?_
        exact ih_1 x1 x2 (x3 + 1) 0 0 r0 z H locs ls hr0 hM (lv_sub hl [1, 2, 3, 0] rfl) hq
  exact (key K).1 x1 x2 0 0 0 r0 z s.heap [] ls hr0 hM (lv_sub hl [0, 1, 2] rfl) hq
theorem dcX0_findCover_0 : decode cX0_findCover 0 = .ok (.aload_n 0, 1) := dw_at cX0_findCover_k0 (p := 0) rfl (by decide +kernel)
theorem dcX0_findCover_1 : decode cX0_findCover 1 = .ok (.aload_n 1, 1) := dw_at cX0_findCover_k0 (p := 1) rfl (by decide +kernel)
theorem dcX0_findCover_2 : decode cX0_findCover 2 = .ok (.invokevirtual 91, 3) := dw_at cX0_findCover_k0 (p := 2) rfl (by decide +kernel)
theorem dcX0_findCover_5 : decode cX0_findCover 5 = .ok (.iconst 0, 1) := dw_at cX0_findCover_k0 (p := 5) rfl (by decide +kernel)
theorem dcX0_findCover_6 : decode cX0_findCover 6 = .ok (.istore_n 2, 1) := dw_at cX0_findCover_k0 (p := 6) rfl (by decide +kernel)
theorem dcX0_findCover_7 : decode cX0_findCover 7 = .ok (.iload_n 2, 1) := dw_at cX0_findCover_k0 (p := 7) rfl (by decide +kernel)
theorem dcX0_findCover_8 : decode cX0_findCover 8 = .ok (.aload_n 1, 1) := dw_at cX0_findCover_k0 (p := 8) rfl (by decide +kernel)
theorem dcX0_findCover_9 : decode cX0_findCover 9 = .ok (.getfield 70, 3) := dw_at cX0_findCover_k0 (p := 9) rfl (by decide +kernel)
theorem dcX0_findCover_12 : decode cX0_findCover 12 = .ok (.if_icmp .ge 87, 3) := dw_at cX0_findCover_k0 (p := 12) rfl (by decide +kernel)
theorem dcX0_findCover_15 : decode cX0_findCover 15 = .ok (.aload_n 0, 1) := dw_at cX0_findCover_k0 (p := 15) rfl (by decide +kernel)
theorem dcX0_findCover_16 : decode cX0_findCover 16 = .ok (.getfield 17, 3) := dw_at cX0_findCover_k0 (p := 16) rfl (by decide +kernel)
theorem dcX0_findCover_19 : decode cX0_findCover 19 = .ok (.iload_n 2, 1) := dw_at cX0_findCover_k0 (p := 19) rfl (by decide +kernel)
theorem dcX0_findCover_20 : decode cX0_findCover 20 = .ok (.aaload, 1) := dw_at cX0_findCover_k0 (p := 20) rfl (by decide +kernel)
theorem dcX0_findCover_21 : decode cX0_findCover 21 = .ok (.lconst 0, 1) := dw_at cX0_findCover_k0 (p := 21) rfl (by decide +kernel)
theorem dcX0_findCover_22 : decode cX0_findCover 22 = .ok (.invokestatic 95, 3) := dw_at cX0_findCover_k0 (p := 22) rfl (by decide +kernel)
theorem dcX0_findCover_25 : decode cX0_findCover 25 = .ok (.aload_n 0, 1) := dw_at cX0_findCover_k1 (p := 0) rfl (by decide +kernel)
theorem dcX0_findCover_26 : decode cX0_findCover 26 = .ok (.getfield 17, 3) := dw_at cX0_findCover_k1 (p := 1) rfl (by decide +kernel)
theorem dcX0_findCover_29 : decode cX0_findCover 29 = .ok (.iload_n 2, 1) := dw_at cX0_findCover_k1 (p := 4) rfl (by decide +kernel)
theorem dcX0_findCover_30 : decode cX0_findCover 30 = .ok (.aaload, 1) := dw_at cX0_findCover_k1 (p := 5) rfl (by decide +kernel)
theorem dcX0_findCover_31 : decode cX0_findCover 31 = .ok (.aload_n 0, 1) := dw_at cX0_findCover_k1 (p := 6) rfl (by decide +kernel)
theorem dcX0_findCover_32 : decode cX0_findCover 32 = .ok (.getfield 9, 3) := dw_at cX0_findCover_k1 (p := 7) rfl (by decide +kernel)
theorem dcX0_findCover_35 : decode cX0_findCover 35 = .ok (.iconst 2, 1) := dw_at cX0_findCover_k1 (p := 10) rfl (by decide +kernel)
theorem dcX0_findCover_36 : decode cX0_findCover 36 = .ok (.iload_n 2, 1) := dw_at cX0_findCover_k1 (p := 11) rfl (by decide +kernel)
theorem dcX0_findCover_37 : decode cX0_findCover 37 = .ok (.imul, 1) := dw_at cX0_findCover_k1 (p := 12) rfl (by decide +kernel)
theorem dcX0_findCover_38 : decode cX0_findCover 38 = .ok (.iaload, 1) := dw_at cX0_findCover_k1 (p := 13) rfl (by decide +kernel)
theorem dcX0_findCover_39 : decode cX0_findCover 39 = .ok (.dup2, 1) := dw_at cX0_findCover_k1 (p := 14) rfl (by decide +kernel)
theorem dcX0_findCover_40 : decode cX0_findCover 40 = .ok (.laload, 1) := dw_at cX0_findCover_k1 (p := 15) rfl (by decide +kernel)
theorem dcX0_findCover_41 : decode cX0_findCover 41 = .ok (.ldc2_w 98, 3) := dw_at cX0_findCover_k1 (p := 16) rfl (by decide +kernel)
theorem dcX0_findCover_44 : decode cX0_findCover 44 = .ok (.ladd, 1) := dw_at cX0_findCover_k1 (p := 19) rfl (by decide +kernel)
theorem dcX0_findCover_45 : decode cX0_findCover 45 = .ok (.lastore, 1) := dw_at cX0_findCover_k1 (p := 20) rfl (by decide +kernel)
theorem dcX0_findCover_46 : decode cX0_findCover 46 = .ok (.aload_n 0, 1) := dw_at cX0_findCover_k1 (p := 21) rfl (by decide +kernel)
theorem dcX0_findCover_47 : decode cX0_findCover 47 = .ok (.getfield 17, 3) := dw_at cX0_findCover_k1 (p := 22) rfl (by decide +kernel)
theorem dcX0_findCover_50 : decode cX0_findCover 50 = .ok (.iload_n 2, 1) := dw_at cX0_findCover_k2 (p := 0) rfl (by decide +kernel)
theorem dcX0_findCover_51 : decode cX0_findCover 51 = .ok (.aaload, 1) := dw_at cX0_findCover_k2 (p := 1) rfl (by decide +kernel)
theorem dcX0_findCover_52 : decode cX0_findCover 52 = .ok (.aload_n 0, 1) := dw_at cX0_findCover_k2 (p := 2) rfl (by decide +kernel)
theorem dcX0_findCover_53 : decode cX0_findCover 53 = .ok (.getfield 9, 3) := dw_at cX0_findCover_k2 (p := 3) rfl (by decide +kernel)
theorem dcX0_findCover_56 : decode cX0_findCover 56 = .ok (.iconst 2, 1) := dw_at cX0_findCover_k2 (p := 6) rfl (by decide +kernel)
theorem dcX0_findCover_57 : decode cX0_findCover 57 = .ok (.iload_n 2, 1) := dw_at cX0_findCover_k2 (p := 7) rfl (by decide +kernel)
theorem dcX0_findCover_58 : decode cX0_findCover 58 = .ok (.imul, 1) := dw_at cX0_findCover_k2 (p := 8) rfl (by decide +kernel)
theorem dcX0_findCover_59 : decode cX0_findCover 59 = .ok (.iconst 1, 1) := dw_at cX0_findCover_k2 (p := 9) rfl (by decide +kernel)
theorem dcX0_findCover_60 : decode cX0_findCover 60 = .ok (.iadd, 1) := dw_at cX0_findCover_k2 (p := 10) rfl (by decide +kernel)
theorem dcX0_findCover_61 : decode cX0_findCover 61 = .ok (.iaload, 1) := dw_at cX0_findCover_k2 (p := 11) rfl (by decide +kernel)
theorem dcX0_findCover_62 : decode cX0_findCover 62 = .ok (.dup2, 1) := dw_at cX0_findCover_k2 (p := 12) rfl (by decide +kernel)
theorem dcX0_findCover_63 : decode cX0_findCover 63 = .ok (.laload, 1) := dw_at cX0_findCover_k2 (p := 13) rfl (by decide +kernel)
theorem dcX0_findCover_64 : decode cX0_findCover 64 = .ok (.lconst 1, 1) := dw_at cX0_findCover_k2 (p := 14) rfl (by decide +kernel)
theorem dcX0_findCover_65 : decode cX0_findCover 65 = .ok (.lsub, 1) := dw_at cX0_findCover_k2 (p := 15) rfl (by decide +kernel)
theorem dcX0_findCover_66 : decode cX0_findCover 66 = .ok (.lastore, 1) := dw_at cX0_findCover_k2 (p := 16) rfl (by decide +kernel)
theorem dcX0_findCover_67 : decode cX0_findCover 67 = .ok (.aload_n 0, 1) := dw_at cX0_findCover_k2 (p := 17) rfl (by decide +kernel)
theorem dcX0_findCover_68 : decode cX0_findCover 68 = .ok (.getfield 17, 3) := dw_at cX0_findCover_k2 (p := 18) rfl (by decide +kernel)
theorem dcX0_findCover_71 : decode cX0_findCover 71 = .ok (.iload_n 2, 1) := dw_at cX0_findCover_k2 (p := 21) rfl (by decide +kernel)
theorem dcX0_findCover_72 : decode cX0_findCover 72 = .ok (.aaload, 1) := dw_at cX0_findCover_k2 (p := 22) rfl (by decide +kernel)
theorem dcX0_findCover_73 : decode cX0_findCover 73 = .ok (.aload_n 0, 1) := dw_at cX0_findCover_k2 (p := 23) rfl (by decide +kernel)
theorem dcX0_findCover_74 : decode cX0_findCover 74 = .ok (.getfield 9, 3) := dw_at cX0_findCover_k3 (p := 0) rfl (by decide +kernel)
theorem dcX0_findCover_77 : decode cX0_findCover 77 = .ok (.aload_n 1, 1) := dw_at cX0_findCover_k3 (p := 3) rfl (by decide +kernel)
theorem dcX0_findCover_78 : decode cX0_findCover 78 = .ok (.getfield 100, 3) := dw_at cX0_findCover_k3 (p := 4) rfl (by decide +kernel)
theorem dcX0_findCover_81 : decode cX0_findCover 81 = .ok (.iconst 2, 1) := dw_at cX0_findCover_k3 (p := 7) rfl (by decide +kernel)
theorem dcX0_findCover_82 : decode cX0_findCover 82 = .ok (.iload_n 2, 1) := dw_at cX0_findCover_k3 (p := 8) rfl (by decide +kernel)
theorem dcX0_findCover_83 : decode cX0_findCover 83 = .ok (.imul, 1) := dw_at cX0_findCover_k3 (p := 9) rfl (by decide +kernel)
theorem dcX0_findCover_84 : decode cX0_findCover 84 = .ok (.iconst 1, 1) := dw_at cX0_findCover_k3 (p := 10) rfl (by decide +kernel)
theorem dcX0_findCover_85 : decode cX0_findCover 85 = .ok (.iadd, 1) := dw_at cX0_findCover_k3 (p := 11) rfl (by decide +kernel)
theorem dcX0_findCover_86 : decode cX0_findCover 86 = .ok (.iaload, 1) := dw_at cX0_findCover_k3 (p := 12) rfl (by decide +kernel)
theorem dcX0_findCover_87 : decode cX0_findCover 87 = .ok (.iaload, 1) := dw_at cX0_findCover_k3 (p := 13) rfl (by decide +kernel)
theorem dcX0_findCover_88 : decode cX0_findCover 88 = .ok (.dup2, 1) := dw_at cX0_findCover_k3 (p := 14) rfl (by decide +kernel)
theorem dcX0_findCover_89 : decode cX0_findCover 89 = .ok (.laload, 1) := dw_at cX0_findCover_k3 (p := 15) rfl (by decide +kernel)
theorem dcX0_findCover_90 : decode cX0_findCover 90 = .ok (.lconst 1, 1) := dw_at cX0_findCover_k3 (p := 16) rfl (by decide +kernel)
theorem dcX0_findCover_91 : decode cX0_findCover 91 = .ok (.lsub, 1) := dw_at cX0_findCover_k3 (p := 17) rfl (by decide +kernel)
theorem dcX0_findCover_92 : decode cX0_findCover 92 = .ok (.lastore, 1) := dw_at cX0_findCover_k3 (p := 18) rfl (by decide +kernel)
theorem dcX0_findCover_93 : decode cX0_findCover 93 = .ok (.iinc 2 1, 3) := dw_at cX0_findCover_k3 (p := 19) rfl (by decide +kernel)
theorem dcX0_findCover_96 : decode cX0_findCover 96 = .ok (.goto (-89), 3) := dw_at cX0_findCover_k3 (p := 22) rfl (by decide +kernel)
theorem dcX0_findCover_99 : decode cX0_findCover 99 = .ok (.aload_n 0, 1) := dw_at cX0_findCover_k4 (p := 0) rfl (by decide +kernel)
theorem dcX0_findCover_100 : decode cX0_findCover 100 = .ok (.iconst 0, 1) := dw_at cX0_findCover_k4 (p := 1) rfl (by decide +kernel)
theorem dcX0_findCover_101 : decode cX0_findCover 101 = .ok (.putfield 103, 3) := dw_at cX0_findCover_k4 (p := 2) rfl (by decide +kernel)
theorem dcX0_findCover_104 : decode cX0_findCover 104 = .ok (.iconst 0, 1) := dw_at cX0_findCover_k4 (p := 5) rfl (by decide +kernel)
theorem dcX0_findCover_105 : decode cX0_findCover 105 = .ok (.istore_n 2, 1) := dw_at cX0_findCover_k4 (p := 6) rfl (by decide +kernel)
theorem dcX0_findCover_106 : decode cX0_findCover 106 = .ok (.iconst 0, 1) := dw_at cX0_findCover_k4 (p := 7) rfl (by decide +kernel)
theorem dcX0_findCover_107 : decode cX0_findCover 107 = .ok (.istore_n 3, 1) := dw_at cX0_findCover_k4 (p := 8) rfl (by decide +kernel)
theorem dcX0_findCover_108 : decode cX0_findCover 108 = .ok (.iload_n 3, 1) := dw_at cX0_findCover_k4 (p := 9) rfl (by decide +kernel)
theorem dcX0_findCover_109 : decode cX0_findCover 109 = .ok (.aload_n 1, 1) := dw_at cX0_findCover_k4 (p := 10) rfl (by decide +kernel)
theorem dcX0_findCover_110 : decode cX0_findCover 110 = .ok (.getfield 70, 3) := dw_at cX0_findCover_k4 (p := 11) rfl (by decide +kernel)
theorem dcX0_findCover_113 : decode cX0_findCover 113 = .ok (.if_icmp .ge 81, 3) := dw_at cX0_findCover_k4 (p := 14) rfl (by decide +kernel)
theorem dcX0_findCover_116 : decode cX0_findCover 116 = .ok (.iload_n 3, 1) := dw_at cX0_findCover_k4 (p := 17) rfl (by decide +kernel)
theorem dcX0_findCover_117 : decode cX0_findCover 117 = .ok (.aload_n 0, 1) := dw_at cX0_findCover_k4 (p := 18) rfl (by decide +kernel)
theorem dcX0_findCover_118 : decode cX0_findCover 118 = .ok (.getfield 82, 3) := dw_at cX0_findCover_k4 (p := 19) rfl (by decide +kernel)
theorem dcX0_findCover_121 : decode cX0_findCover 121 = .ok (.if_icmp .ge 73, 3) := dw_at cX0_findCover_k4 (p := 22) rfl (by decide +kernel)
theorem dcX0_findCover_124 : decode cX0_findCover 124 = .ok (.aload_n 0, 1) := dw_at cX0_findCover_k5 (p := 0) rfl (by decide +kernel)
theorem dcX0_findCover_125 : decode cX0_findCover 125 = .ok (.iload_n 3, 1) := dw_at cX0_findCover_k5 (p := 1) rfl (by decide +kernel)
theorem dcX0_findCover_126 : decode cX0_findCover 126 = .ok (.aload_n 1, 1) := dw_at cX0_findCover_k5 (p := 2) rfl (by decide +kernel)
theorem dcX0_findCover_127 : decode cX0_findCover 127 = .ok (.getfield 70, 3) := dw_at cX0_findCover_k5 (p := 3) rfl (by decide +kernel)
theorem dcX0_findCover_130 : decode cX0_findCover 130 = .ok (.invokevirtual 106, 3) := dw_at cX0_findCover_k5 (p := 6) rfl (by decide +kernel)
theorem dcX0_findCover_133 : decode cX0_findCover 133 = .ok (.ifCond .ne 6, 3) := dw_at cX0_findCover_k5 (p := 9) rfl (by decide +kernel)
theorem dcX0_findCover_136 : decode cX0_findCover 136 = .ok (.goto 58, 3) := dw_at cX0_findCover_k5 (p := 12) rfl (by decide +kernel)
theorem dcX0_findCover_139 : decode cX0_findCover 139 = .ok (.iinc 2 1, 3) := dw_at cX0_findCover_k5 (p := 15) rfl (by decide +kernel)
theorem dcX0_findCover_142 : decode cX0_findCover 142 = .ok (.aload_n 0, 1) := dw_at cX0_findCover_k5 (p := 18) rfl (by decide +kernel)
theorem dcX0_findCover_143 : decode cX0_findCover 143 = .ok (.getfield 17, 3) := dw_at cX0_findCover_k5 (p := 19) rfl (by decide +kernel)
theorem dcX0_findCover_146 : decode cX0_findCover 146 = .ok (.iload_n 3, 1) := dw_at cX0_findCover_k5 (p := 22) rfl (by decide +kernel)
theorem dcX0_findCover_147 : decode cX0_findCover 147 = .ok (.aaload, 1) := dw_at cX0_findCover_k5 (p := 23) rfl (by decide +kernel)
theorem dcX0_findCover_148 : decode cX0_findCover 148 = .ok (.iload_n 3, 1) := dw_at cX0_findCover_k6 (p := 0) rfl (by decide +kernel)
theorem dcX0_findCover_149 : decode cX0_findCover 149 = .ok (.laload, 1) := dw_at cX0_findCover_k6 (p := 1) rfl (by decide +kernel)
theorem dcX0_findCover_150 : decode cX0_findCover 150 = .ok (.invokestatic 110, 3) := dw_at cX0_findCover_k6 (p := 2) rfl (by decide +kernel)
theorem dcX0_findCover_153 : decode cX0_findCover 153 = .ok (.lconst 1, 1) := dw_at cX0_findCover_k6 (p := 5) rfl (by decide +kernel)
theorem dcX0_findCover_154 : decode cX0_findCover 154 = .ok (.lcmp, 1) := dw_at cX0_findCover_k6 (p := 6) rfl (by decide +kernel)
theorem dcX0_findCover_155 : decode cX0_findCover 155 = .ok (.ifCond .eq 33, 3) := dw_at cX0_findCover_k6 (p := 7) rfl (by decide +kernel)
theorem dcX0_findCover_158 : decode cX0_findCover 158 = .ok (.aload_n 0, 1) := dw_at cX0_findCover_k6 (p := 10) rfl (by decide +kernel)
theorem dcX0_findCover_159 : decode cX0_findCover 159 = .ok (.getfield 20, 3) := dw_at cX0_findCover_k6 (p := 11) rfl (by decide +kernel)
theorem dcX0_findCover_162 : decode cX0_findCover 162 = .ok (.aload_n 0, 1) := dw_at cX0_findCover_k6 (p := 14) rfl (by decide +kernel)
theorem dcX0_findCover_163 : decode cX0_findCover 163 = .ok (.getfield 103, 3) := dw_at cX0_findCover_k6 (p := 15) rfl (by decide +kernel)
theorem dcX0_findCover_166 : decode cX0_findCover 166 = .ok (.aload_n 0, 1) := dw_at cX0_findCover_k6 (p := 18) rfl (by decide +kernel)
theorem dcX0_findCover_167 : decode cX0_findCover 167 = .ok (.getfield 17, 3) := dw_at cX0_findCover_k6 (p := 19) rfl (by decide +kernel)
theorem dcX0_findCover_170 : decode cX0_findCover 170 = .ok (.iload_n 3, 1) := dw_at cX0_findCover_k6 (p := 22) rfl (by decide +kernel)
theorem dcX0_findCover_171 : decode cX0_findCover 171 = .ok (.aaload, 1) := dw_at cX0_findCover_k6 (p := 23) rfl (by decide +kernel)
theorem dcX0_findCover_172 : decode cX0_findCover 172 = .ok (.iload_n 3, 1) := dw_at cX0_findCover_k7 (p := 0) rfl (by decide +kernel)
theorem dcX0_findCover_173 : decode cX0_findCover 173 = .ok (.laload, 1) := dw_at cX0_findCover_k7 (p := 1) rfl (by decide +kernel)
theorem dcX0_findCover_174 : decode cX0_findCover 174 = .ok (.invokestatic 110, 3) := dw_at cX0_findCover_k7 (p := 2) rfl (by decide +kernel)
theorem dcX0_findCover_177 : decode cX0_findCover 177 = .ok (.lastore, 1) := dw_at cX0_findCover_k7 (p := 5) rfl (by decide +kernel)
theorem dcX0_findCover_178 : decode cX0_findCover 178 = .ok (.aload_n 0, 1) := dw_at cX0_findCover_k7 (p := 6) rfl (by decide +kernel)
theorem dcX0_findCover_179 : decode cX0_findCover 179 = .ok (.dup, 1) := dw_at cX0_findCover_k7 (p := 7) rfl (by decide +kernel)
theorem dcX0_findCover_180 : decode cX0_findCover 180 = .ok (.getfield 103, 3) := dw_at cX0_findCover_k7 (p := 8) rfl (by decide +kernel)
theorem dcX0_findCover_183 : decode cX0_findCover 183 = .ok (.iconst 1, 1) := dw_at cX0_findCover_k7 (p := 11) rfl (by decide +kernel)
theorem dcX0_findCover_184 : decode cX0_findCover 184 = .ok (.iadd, 1) := dw_at cX0_findCover_k7 (p := 12) rfl (by decide +kernel)
theorem dcX0_findCover_185 : decode cX0_findCover 185 = .ok (.putfield 103, 3) := dw_at cX0_findCover_k7 (p := 13) rfl (by decide +kernel)
theorem dcX0_findCover_188 : decode cX0_findCover 188 = .ok (.iinc 3 1, 3) := dw_at cX0_findCover_k7 (p := 16) rfl (by decide +kernel)
theorem dcX0_findCover_191 : decode cX0_findCover 191 = .ok (.goto (-83), 3) := dw_at cX0_findCover_k7 (p := 19) rfl (by decide +kernel)
theorem dcX0_findCover_194 : decode cX0_findCover 194 = .ok (.iload_n 2, 1) := dw_at cX0_findCover_k7 (p := 22) rfl (by decide +kernel)
theorem dcX0_findCover_195 : decode cX0_findCover 195 = .ok (.iconst 1, 1) := dw_at cX0_findCover_k7 (p := 23) rfl (by decide +kernel)
theorem dcX0_findCover_196 : decode cX0_findCover 196 = .ok (.iadd, 1) := dw_at cX0_findCover_k8 (p := 0) rfl (by decide +kernel)
theorem dcX0_findCover_197 : decode cX0_findCover 197 = .ok (.istore_n 3, 1) := dw_at cX0_findCover_k8 (p := 1) rfl (by decide +kernel)
theorem dcX0_findCover_198 : decode cX0_findCover 198 = .ok (.iload_n 3, 1) := dw_at cX0_findCover_k8 (p := 2) rfl (by decide +kernel)
theorem dcX0_findCover_199 : decode cX0_findCover 199 = .ok (.aload_n 0, 1) := dw_at cX0_findCover_k8 (p := 3) rfl (by decide +kernel)
theorem dcX0_findCover_200 : decode cX0_findCover 200 = .ok (.getfield 82, 3) := dw_at cX0_findCover_k8 (p := 4) rfl (by decide +kernel)
theorem dcX0_findCover_203 : decode cX0_findCover 203 = .ok (.if_icmp .ge 29, 3) := dw_at cX0_findCover_k8 (p := 7) rfl (by decide +kernel)
theorem dcX0_findCover_206 : decode cX0_findCover 206 = .ok (.aload_n 0, 1) := dw_at cX0_findCover_k8 (p := 10) rfl (by decide +kernel)
theorem dcX0_findCover_207 : decode cX0_findCover 207 = .ok (.getfield 20, 3) := dw_at cX0_findCover_k8 (p := 11) rfl (by decide +kernel)
theorem dcX0_findCover_210 : decode cX0_findCover 210 = .ok (.aload_n 0, 1) := dw_at cX0_findCover_k8 (p := 14) rfl (by decide +kernel)
theorem dcX0_findCover_211 : decode cX0_findCover 211 = .ok (.getfield 103, 3) := dw_at cX0_findCover_k8 (p := 15) rfl (by decide +kernel)
theorem dcX0_findCover_214 : decode cX0_findCover 214 = .ok (.lconst 0, 1) := dw_at cX0_findCover_k8 (p := 18) rfl (by decide +kernel)
theorem dcX0_findCover_215 : decode cX0_findCover 215 = .ok (.lastore, 1) := dw_at cX0_findCover_k8 (p := 19) rfl (by decide +kernel)
theorem dcX0_findCover_216 : decode cX0_findCover 216 = .ok (.aload_n 0, 1) := dw_at cX0_findCover_k8 (p := 20) rfl (by decide +kernel)
theorem dcX0_findCover_217 : decode cX0_findCover 217 = .ok (.dup, 1) := dw_at cX0_findCover_k8 (p := 21) rfl (by decide +kernel)
theorem dcX0_findCover_218 : decode cX0_findCover 218 = .ok (.getfield 103, 3) := dw_at cX0_findCover_k8 (p := 22) rfl (by decide +kernel)
theorem dcX0_findCover_221 : decode cX0_findCover 221 = .ok (.iconst 1, 1) := dw_at cX0_findCover_k9 (p := 0) rfl (by decide +kernel)
theorem dcX0_findCover_222 : decode cX0_findCover 222 = .ok (.iadd, 1) := dw_at cX0_findCover_k9 (p := 1) rfl (by decide +kernel)
theorem dcX0_findCover_223 : decode cX0_findCover 223 = .ok (.putfield 103, 3) := dw_at cX0_findCover_k9 (p := 2) rfl (by decide +kernel)
theorem dcX0_findCover_226 : decode cX0_findCover 226 = .ok (.iinc 3 1, 3) := dw_at cX0_findCover_k9 (p := 5) rfl (by decide +kernel)
theorem dcX0_findCover_229 : decode cX0_findCover 229 = .ok (.goto (-31), 3) := dw_at cX0_findCover_k9 (p := 8) rfl (by decide +kernel)
theorem dcX0_findCover_232 : decode cX0_findCover 232 = .ok (.return_, 1) := dw_at cX0_findCover_k9 (p := 11) rfl (by decide +kernel)
def cm_X0_findCover_0 (vl : Nat → Nat) (K : Nat) (go : Nat → Int32 → Int32 → Nat → Nat → ow_MS → Option ow_MS) (x2 : Int32) (x3 : Int32) (r0 : Nat) (r1 : Nat) (z : ow_MS) : Option ow_MS :=
 cs0 (ce_X0_markArcs vl K r0 r1 z) fun z1 => go 1 0 0 r0 r1 z1
def cm_X0_findCover_1 (vl : Nat → Nat) (K : Nat) (go : Nat → Int32 → Int32 → Nat → Nat → ow_MS → Option ow_MS) (x2 : Int32) (x3 : Int32) (r0 : Nat) (r1 : Nat) (z : ow_MS) : Option ow_MS :=
 rdF z (r1 + 8) fun v2 => (if v2 ≤ x2 then wrF z (r0 + 5) 0 fun z3 => go 2 0 0 r0 r1 z3
 else crX 12 x2 fun j4 => cs0 (ce_J7_fill_d0a16 vl K (r0 + 1001 + j4) 0 z) fun z5 => crX 12 x2 fun j6 => crI (cX vl) z5 (r0 + 1) (2 * x2) fun v7 => crJ (cX vl) z5 (r0 + 1001 + j6) v7 fun v8 => ctJ (cX vl) z5 (r0 + 1001 + j6) v7 (v8 + 2) fun z9 => crX 12 x2 fun j10 => crI (cX vl) z9 (r0 + 1) ((2 * x2) + 1) fun v11 => crJ (cX vl) z9 (r0 + 1001 + j10) v11 fun v12 => ctJ (cX vl) z9 (r0 + 1001 + j10) v11 (v12 - 1) fun z13 => crX 12 x2 fun j14 => crI (cX vl) z13 (r1 + 2) ((2 * x2) + 1) fun v15 => crI (cX vl) z13 (r0 + 1) v15 fun v16 => crJ (cX vl) z13 (r0 + 1001 + j14) v16 fun v17 => ctJ (cX vl) z13 (r0 + 1001 + j14) v16 (v17 - 1) fun z18 => go 1 (x2 + 1) 0 r0 r1 z18)
def cm_X0_findCover_2 (vl : Nat → Nat) (K : Nat) (go : Nat → Int32 → Int32 → Nat → Nat → ow_MS → Option ow_MS) (x2 : Int32) (x3 : Int32) (r0 : Nat) (r1 : Nat) (z : ow_MS) : Option ow_MS :=
 rdF z (r1 + 8) fun v19 => (if v19 ≤ x3 then go 4 x2 x3 r0 r1 z
 else rdF z (r0 + 2) fun v20 => (if v20 ≤ x3 then go 4 x2 x3 r0 r1 z
 else rdF z (r1 + 8) fun v21 => cs1 (ce_X0_isolate vl K r0 x3 v21 z) fun v23 z22 => (if v23 = 0 then go 4 x2 x3 r0 r1 z22
 else crX 12 x3 fun j24 => crJ (cX vl) z22 (r0 + 1001 + j24) x3 fun v25 => (if (lg_cmp (if 0 < v25 then v25 else -v25) 1) = 0 then go 3 (x2 + 1) x3 r0 r1 z22
 else rdF z22 (r0 + 5) fun v26 => crX 12 x3 fun j27 => crJ (cX vl) z22 (r0 + 1001 + j27) x3 fun v28 => ctJ (cX vl) z22 (r0 + 4) v26 (if 0 < v28 then v28 else -v28) fun z29 => rdF z29 (r0 + 5) fun v30 => wrF z29 (r0 + 5) (v30 + 1) fun z31 => go 3 (x2 + 1) x3 r0 r1 z31))))
def cm_X0_findCover_3 (vl : Nat → Nat) (K : Nat) (go : Nat → Int32 → Int32 → Nat → Nat → ow_MS → Option ow_MS) (x2 : Int32) (x3 : Int32) (r0 : Nat) (r1 : Nat) (z : ow_MS) : Option ow_MS :=
 go 2 x2 (x3 + 1) r0 r1 z
def cm_X0_findCover_4 (vl : Nat → Nat) (K : Nat) (go : Nat → Int32 → Int32 → Nat → Nat → ow_MS → Option ow_MS) (x2 : Int32) (x3 : Int32) (r0 : Nat) (r1 : Nat) (z : ow_MS) : Option ow_MS :=
 go 5 x2 (x2 + 1) r0 r1 z
def cm_X0_findCover_5 (vl : Nat → Nat) (K : Nat) (go : Nat → Int32 → Int32 → Nat → Nat → ow_MS → Option ow_MS) (x2 : Int32) (x3 : Int32) (r0 : Nat) (r1 : Nat) (z : ow_MS) : Option ow_MS :=
 rdF z (r0 + 2) fun v32 => (if v32 ≤ x3 then some z
 else rdF z (r0 + 5) fun v33 => ctJ (cX vl) z (r0 + 4) v33 0 fun z34 => rdF z34 (r0 + 5) fun v35 => wrF z34 (r0 + 5) (v35 + 1) fun z36 => go 5 x2 (x3 + 1) r0 r1 z36)
def cb_X0_findCover (vl : Nat → Nat) (K : Nat) (go : Nat → Int32 → Int32 → Nat → Nat → ow_MS → Option ow_MS) (L : Nat) (x2 : Int32) (x3 : Int32) (r0 : Nat) (r1 : Nat) (z : ow_MS) : Option ow_MS := match L with
  | 0 => cm_X0_findCover_0 vl K go x2 x3 r0 r1 z
  | 1 => cm_X0_findCover_1 vl K go x2 x3 r0 r1 z
  | 2 => cm_X0_findCover_2 vl K go x2 x3 r0 r1 z
  | 3 => cm_X0_findCover_3 vl K go x2 x3 r0 r1 z
  | 4 => cm_X0_findCover_4 vl K go x2 x3 r0 r1 z
  | 5 => cm_X0_findCover_5 vl K go x2 x3 r0 r1 z
  | _ => none
def c_X0_findCover (vl : Nat → Nat) (K : Nat) : Nat → Nat → Int32 → Int32 → Nat → Nat → ow_MS → Option ow_MS
  | 0 => fun _ _ _ _ _ _ => none
  | k + 1 => cb_X0_findCover vl K (c_X0_findCover vl K k)
def ce_X0_findCover (vl : Nat → Nat) (K : Nat) (r0 : Nat) (r1 : Nat) (z : ow_MS) : Option ow_MS := c_X0_findCover vl K K 0 0 0 r0 r1 z
abbrev wc_X0_findCover : List Cond := .code yX0_findCover cX0_findCover 4 none :: wC
theorem cdd_X0_findCover : yX0_findCover.cls = RX0 ∧ yX0_findCover.cls ≠ "java/lang/invoke/MethodHandle" ∧ yX0_findCover.cls ≠ "java/lang/invoke/VarHandle" ∧ (parseMethodDescriptor yX0_findCover.desc).map (fun d => d.parameters.length) = some 1 := by decide +kernel
set_option maxHeartbeats 4000000 in
set_option maxRecDepth 100000 in
theorem kc_X0_findCover (l : Launch) (D : va_G) (q : Nat → ClassId) (vl u : Nat → Nat) (hU0 : tw_inj (cX vl) u) (K : Nat) (r0 : Nat) (r1 : Nat) (hr0 : cw_X0 r0) (hr1 : cw_X7 r1) (z z1 : ow_MS) (hq : ce_X0_findCover vl K r0 r1 z = some z1) : Met l yX0_findCover wc_X0_findCover ({ frames := 3, cells := 0, slots := 0, locals := 84 } : Room) (va_Pc [.ref (u r0), .ref (u r1)] (cw_pre D q vl u z)) (va_Qv (fun (_ : Unit) => True) (fun _ t => va_P D vwCl (uw (cX vl) q u z1) t.heap) (tw_A (cX vl) u)) 0 0 (tw_A (cX vl) u) := by
  refine Met.ofW (cc := cX0_findCover) (maxL := 4) (ret := none) (by decide) rfl ?_
  intro p e s m args below meth c s₁ B hml hv
  obtain ⟨rfl, hP, hK⟩ := hv
  have hx := B.exec
  have hb := B.bytes
  have hr := B.returns
  have hts := atoms_spec (ws := wc_X0_findCover) B.pre
  have hT : ∀ w ∈ wC, w.before ([.ref (u r0), .ref (u r1)] : List Value).toArray s = true := fun w h => hts w (List.mem_cons_of_mem _ h)
  have hown : s.vm.findClass RX0 = some m.cls := findClass_of_methodNamed B.named
  have hlocks := B.notSynchronized
  have hU : uw_inj (cX vl) u (tw_A (cX vl) u) := ⟨hU0, fun h hh => ⟨h, hh, rfl⟩⟩
  have hM : uw_M D vwCl (cX vl) q (tw_A (cX vl) u) s.heap u z s.heap [] := ⟨hP, va_S.rf⟩
  have hl := lv_entry ([.ref (u r0), .ref (u r1)]) (n := 4) (Nat.le_of_ble_eq_true rfl)
  rw [lg_entry_eq]
  generalize (lg_sl ([.ref (u r0), .ref (u r1)]) ++ List.replicate (4 - (lg_sl ([.ref (u r0), .ref (u r1)])).length) Slot.unset).toArray = ls at hl ⊢
  have hl : lv_has ls 4 [(0, .ref (u r0)), (1, .ref (u r1))] := hl
  refine ow_named (fun QQ hQQ => ?_)
  generalize ([.ref (u r0), .ref (u r1)] : List Value).toArray = args at hts hT hQQ ⊢
  have key : ∀ k : Nat, (∀ (x2 : Int32) (x3 : Int32) (r0 : Nat) (r1 : Nat) (z : ow_MS) (H : Heap) (locs : List Loc) (ls : Array Slot), cw_X0 r0 → cw_X7 r1 → uw_M D vwCl (cX vl) q (tw_A (cX vl) u) s.heap u z H locs → lv_has ls 4 [(0, .ref (u r0)), (1, .ref (u r1))] → c_X0_findCover vl K k 0 x2 x3 r0 r1 z = some z1 → W p l e ({ frames := 3, cells := 0, slots := 0, locals := 84 } : Room) s m args below meth c H locs 0 0 QQ (F0 m 0 ls [])) ∧ (∀ (x2 : Int32) (x3 : Int32) (r0 : Nat) (r1 : Nat) (z : ow_MS) (H : Heap) (locs : List Loc) (ls : Array Slot), cw_X0 r0 → cw_X7 r1 → uw_M D vwCl (cX vl) q (tw_A (cX vl) u) s.heap u z H locs → lv_has ls 4 [(0, .ref (u r0)), (1, .ref (u r1)), (2, .int x2)] → c_X0_findCover vl K k 1 x2 x3 r0 r1 z = some z1 → W p l e ({ frames := 3, cells := 0, slots := 0, locals := 84 } : Room) s m args below meth c H locs 0 0 QQ (F0 m 7 ls [])) ∧ (∀ (x2 : Int32) (x3 : Int32) (r0 : Nat) (r1 : Nat) (z : ow_MS) (H : Heap) (locs : List Loc) (ls : Array Slot), cw_X0 r0 → cw_X7 r1 → uw_M D vwCl (cX vl) q (tw_A (cX vl) u) s.heap u z H locs → lv_has ls 4 [(0, .ref (u r0)), (1, .ref (u r1)), (2, .int x2), (3, .int x3)] → c_X0_findCover vl K k 2 x2 x3 r0 r1 z = some z1 → W p l e ({ frames := 3, cells := 0, slots := 0, locals := 84 } : Room) s m args below meth c H locs 0 0 QQ (F0 m 108 ls [])) ∧ (∀ (x2 : Int32) (x3 : Int32) (r0 : Nat) (r1 : Nat) (z : ow_MS) (H : Heap) (locs : List Loc) (ls : Array Slot), cw_X0 r0 → cw_X7 r1 → uw_M D vwCl (cX vl) q (tw_A (cX vl) u) s.heap u z H locs → lv_has ls 4 [(0, .ref (u r0)), (1, .ref (u r1)), (2, .int x2), (3, .int x3)] → c_X0_findCover vl K k 3 x2 x3 r0 r1 z = some z1 → W p l e ({ frames := 3, cells := 0, slots := 0, locals := 84 } : Room) s m args below meth c H locs 0 0 QQ (F0 m 188 ls [])) ∧ (∀ (x2 : Int32) (x3 : Int32) (r0 : Nat) (r1 : Nat) (z : ow_MS) (H : Heap) (locs : List Loc) (ls : Array Slot), cw_X0 r0 → cw_X7 r1 → uw_M D vwCl (cX vl) q (tw_A (cX vl) u) s.heap u z H locs → lv_has ls 4 [(0, .ref (u r0)), (1, .ref (u r1)), (2, .int x2), (3, .int x3)] → c_X0_findCover vl K k 4 x2 x3 r0 r1 z = some z1 → W p l e ({ frames := 3, cells := 0, slots := 0, locals := 84 } : Room) s m args below meth c H locs 0 0 QQ (F0 m 194 ls [])) ∧ (∀ (x2 : Int32) (x3 : Int32) (r0 : Nat) (r1 : Nat) (z : ow_MS) (H : Heap) (locs : List Loc) (ls : Array Slot), cw_X0 r0 → cw_X7 r1 → uw_M D vwCl (cX vl) q (tw_A (cX vl) u) s.heap u z H locs → lv_has ls 4 [(0, .ref (u r0)), (1, .ref (u r1)), (2, .int x2), (3, .int x3)] → c_X0_findCover vl K k 5 x2 x3 r0 r1 z = some z1 → W p l e ({ frames := 3, cells := 0, slots := 0, locals := 84 } : Room) s m args below meth c H locs 0 0 QQ (F0 m 198 ls [])) := by
    intro k
    induction k with
    | zero => exact ⟨fun _ _ _ _ _ _ _ _ _ _ _ _ hq => cw_no hq, fun _ _ _ _ _ _ _ _ _ _ _ _ hq => cw_no hq, fun _ _ _ _ _ _ _ _ _ _ _ _ hq => cw_no hq, fun _ _ _ _ _ _ _ _ _ _ _ _ hq => cw_no hq, fun _ _ _ _ _ _ _ _ _ _ _ _ hq => cw_no hq, fun _ _ _ _ _ _ _ _ _ _ _ _ hq => cw_no hq⟩
    | succ k ih =>
      obtain ⟨ih_0, ih_1, ih_2, ih_3, ih_4, ih_5⟩ := ih
      refine ⟨?_, ?_, ?_, ?_, ?_, ?_⟩
      · intro x2 x3 r0 r1 z H locs ls hr0 hr1 hM hl hq
        have hq : cm_X0_findCover_0 vl K (c_X0_findCover vl K k) x2 x3 r0 r1 z = some z1 := hq
        unfold cm_X0_findCover_0 at hq
        refine lv_aload_n hx hb dcX0_findCover_0 rfl (lv_at hl 0 rfl) ?_
        refine lv_aload_n hx hb dcX0_findCover_1 rfl (lv_at hl 1 rfl) ?_
        obtain ⟨z1, hcq, hq⟩ := tw_cl0 hq
        refine uw_calv hU hM (va_runV (As := [.ref (u r1)]) (rest := []) ⟨hx, hb, hml, hown, hts⟩ (kc_X0_markArcs l D q vl u hU.1 K r0 r1 hr0 hr1 z z1 hcq) (cwV 1 hts (tw_gV wC_good xq_21 xq_22 xq_23 xq_24 xq_11) rfl rfl rfl cdd_X0_markArcs ⟨(Nat.le_of_ble_eq_true rfl), (Nat.le_of_ble_eq_true rfl)⟩) (cw_preV hK hM (co_X0 hr0) rfl) rfl rfl hl.1 rfl (lv_room (Nat.le_of_ble_eq_true rfl)) dcX0_findCover_2 ⟨(Nat.le_of_ble_eq_true rfl), (Nat.le_of_ble_eq_true rfl)⟩) (fun H locs hM => ?_)
        refine lv_iconst (v := 0) hx hb dcX0_findCover_5 (by decide) ?_
        refine lv_istore_n (lv' := [(2, .int 0), (0, .ref (u r0)), (1, .ref (u r1))]) hx hb dcX0_findCover_6 rfl hl (by decide) rfl (fun ls hl => ?_)
        exact ih_1 0 0 r0 r1 z1 H locs ls hr0 hr1 hM (lv_sub hl [1, 2, 0] rfl) hq
      · intro x2 x3 r0 r1 z H locs ls hr0 hr1 hM hl hq
        have hq : cm_X0_findCover_1 vl K (c_X0_findCover vl K k) x2 x3 r0 r1 z = some z1 := hq
        unfold cm_X0_findCover_1 at hq
        refine lv_iload_n hx hb dcX0_findCover_7 rfl (lv_at hl 2 rfl) ?_
        refine lv_aload_n hx hb dcX0_findCover_8 rfl (lv_at hl 1 rfl) ?_
        refine vgX0_70 hx hb hT hown hK hM hr1 hq dcX0_findCover_9 (fun v2 hq => ?_)
        refine lv_icmp_ge (tgt := 99) hx hb dcX0_findCover_12 (by decide) (fun hc => ?_) (fun hc => ?_)
        · have hq := tw_it hq hc
          refine lv_aload_n hx hb dcX0_findCover_99 rfl (lv_at hl 0 rfl) ?_
          refine lv_iconst (v := 0) hx hb dcX0_findCover_100 (by decide) ?_
          refine vpX0_103 hx hb hT hown hK hM hU hr0 hq dcX0_findCover_101 (fun z3 H locs hM hq => ?_)
          refine lv_iconst (v := 0) hx hb dcX0_findCover_104 (by decide) ?_
          refine lv_istore_n (lv' := [(2, .int 0), (0, .ref (u r0)), (1, .ref (u r1))]) hx hb dcX0_findCover_105 rfl hl (by decide) rfl (fun ls hl => ?_)
          refine lv_iconst (v := 0) hx hb dcX0_findCover_106 (by decide) ?_
          refine lv_istore_n (lv' := [(3, .int 0), (2, .int 0), (0, .ref (u r0)), (1, .ref (u r1))]) hx hb dcX0_findCover_107 rfl hl (by decide) rfl (fun ls hl => ?_)
          exact ih_2 0 0 r0 r1 z3 H locs ls hr0 hr1 hM (lv_sub hl [2, 3, 1, 0] rfl) hq
        · have hq := tw_if hq hc
          refine lv_aload_n hx hb dcX0_findCover_15 rfl (lv_at hl 0 rfl) ?_
          refine vgX0_17 hx hb hT hown hK hM hr0 dcX0_findCover_16 ?_
          refine lv_iload_n hx hb dcX0_findCover_19 rfl (lv_at hl 2 rfl) ?_
          refine ca_X0_2 hx hb hK hM hr0 hq dcX0_findCover_20 (fun j4 hj4 hq => ?_)
          refine lv_lconst (v := 0) hx hb dcX0_findCover_21 rfl ?_
          obtain ⟨z5, hcq, hq⟩ := tw_cl0 hq
          refine uw_calv hU hM (va_runS (As := [.ref (u (r0 + 1001 + j4)), .long 0]) (rest := []) ⟨hx, hb, hml, hown, hts⟩ (kc_J7_fill_d0a16 l D q vl u hU.1 K (r0 + 1001 + j4) 0 (cg_X0_2 hr0 hj4) z z5 hcq) (va_cwS 2 hts (tw_gS wC_good xq_25 xq_26 xq_9 xq_27) rfl rfl rfl cdd_J7_fill_d0a16 ⟨(Nat.le_of_ble_eq_true rfl), (Nat.le_of_ble_eq_true rfl)⟩) (cw_preS hK hM) rfl rfl hl.1 rfl (lv_room (Nat.le_of_ble_eq_true rfl)) dcX0_findCover_22 ⟨(Nat.le_of_ble_eq_true rfl), (Nat.le_of_ble_eq_true rfl)⟩) (fun H locs hM => ?_)
          refine lv_aload_n hx hb dcX0_findCover_25 rfl (lv_at hl 0 rfl) ?_
          refine vgX0_17 hx hb hT hown hK hM hr0 dcX0_findCover_26 ?_
          refine lv_iload_n hx hb dcX0_findCover_29 rfl (lv_at hl 2 rfl) ?_
          refine ca_X0_2 hx hb hK hM hr0 hq dcX0_findCover_30 (fun j6 hj6 hq => ?_)
          refine lv_aload_n hx hb dcX0_findCover_31 rfl (lv_at hl 0 rfl) ?_
          refine vgX0_9 hx hb hT hown hK hM hr0 dcX0_findCover_32 ?_
          refine lv_iconst (v := 2) hx hb dcX0_findCover_35 (by decide) ?_
          refine lv_iload_n hx hb dcX0_findCover_36 rfl (lv_at hl 2 rfl) ?_
          refine lv_imul hx hb dcX0_findCover_37 ?_
          refine uw_iald cX_ok hx hb hK hM (cr_X0_0 hr0) hq dcX0_findCover_38 (fun v7 hq => ?_)
          refine lv_dup2_11 hx hb dcX0_findCover_39 rfl rfl ?_
          refine uw_lald cX_ok hx hb hK hM (cg_X0_2 hr0 hj6) hq dcX0_findCover_40 (fun v8 hq => ?_)
          refine lv_ldc2 (v := 2) hx hb hown (hT _ xq_13) dcX0_findCover_41 ?_
          refine lv_ladd hx hb dcX0_findCover_44 ?_
          refine uw_last cX_ok hU hx hb hK hM (cg_X0_2 hr0 hj6) hq dcX0_findCover_45 (fun z9 H locs hM hq => ?_)
          refine lv_aload_n hx hb dcX0_findCover_46 rfl (lv_at hl 0 rfl) ?_
          refine vgX0_17 hx hb hT hown hK hM hr0 dcX0_findCover_47 ?_
          refine lv_iload_n hx hb dcX0_findCover_50 rfl (lv_at hl 2 rfl) ?_
          refine ca_X0_2 hx hb hK hM hr0 hq dcX0_findCover_51 (fun j10 hj10 hq => ?_)
          refine lv_aload_n hx hb dcX0_findCover_52 rfl (lv_at hl 0 rfl) ?_
          refine vgX0_9 hx hb hT hown hK hM hr0 dcX0_findCover_53 ?_
          refine lv_iconst (v := 2) hx hb dcX0_findCover_56 (by decide) ?_
          refine lv_iload_n hx hb dcX0_findCover_57 rfl (lv_at hl 2 rfl) ?_
          refine lv_imul hx hb dcX0_findCover_58 ?_
          refine lv_iconst (v := 1) hx hb dcX0_findCover_59 (by decide) ?_
          refine lv_iadd hx hb dcX0_findCover_60 ?_
          refine uw_iald cX_ok hx hb hK hM (cr_X0_0 hr0) hq dcX0_findCover_61 (fun v11 hq => ?_)
          refine lv_dup2_11 hx hb dcX0_findCover_62 rfl rfl ?_
          refine uw_lald cX_ok hx hb hK hM (cg_X0_2 hr0 hj10) hq dcX0_findCover_63 (fun v12 hq => ?_)
          refine lv_lconst (v := 1) hx hb dcX0_findCover_64 rfl ?_
          refine lv_lsub hx hb dcX0_findCover_65 ?_
          refine uw_last cX_ok hU hx hb hK hM (cg_X0_2 hr0 hj10) hq dcX0_findCover_66 (fun z13 H locs hM hq => ?_)
          refine lv_aload_n hx hb dcX0_findCover_67 rfl (lv_at hl 0 rfl) ?_
          refine vgX0_17 hx hb hT hown hK hM hr0 dcX0_findCover_68 ?_
          refine lv_iload_n hx hb dcX0_findCover_71 rfl (lv_at hl 2 rfl) ?_
          refine ca_X0_2 hx hb hK hM hr0 hq dcX0_findCover_72 (fun j14 hj14 hq => ?_)
          refine lv_aload_n hx hb dcX0_findCover_73 rfl (lv_at hl 0 rfl) ?_
          refine vgX0_9 hx hb hT hown hK hM hr0 dcX0_findCover_74 ?_
          refine lv_aload_n hx hb dcX0_findCover_77 rfl (lv_at hl 1 rfl) ?_
          refine vgX0_100 hx hb hT hown hK hM hr1 dcX0_findCover_78 ?_
          refine lv_iconst (v := 2) hx hb dcX0_findCover_81 (by decide) ?_
          refine lv_iload_n hx hb dcX0_findCover_82 rfl (lv_at hl 2 rfl) ?_
          refine lv_imul hx hb dcX0_findCover_83 ?_
          refine lv_iconst (v := 1) hx hb dcX0_findCover_84 (by decide) ?_
          refine lv_iadd hx hb dcX0_findCover_85 ?_
          refine uw_iald cX_ok hx hb hK hM (cr_X7_1 hr1) hq dcX0_findCover_86 (fun v15 hq => ?_)
          refine uw_iald cX_ok hx hb hK hM (cr_X0_0 hr0) hq dcX0_findCover_87 (fun v16 hq => ?_)
          refine lv_dup2_11 hx hb dcX0_findCover_88 rfl rfl ?_
          refine uw_lald cX_ok hx hb hK hM (cg_X0_2 hr0 hj14) hq dcX0_findCover_89 (fun v17 hq => ?_)
          refine lv_lconst (v := 1) hx hb dcX0_findCover_90 rfl ?_
          refine lv_lsub hx hb dcX0_findCover_91 ?_
          refine uw_last cX_ok hU hx hb hK hM (cg_X0_2 hr0 hj14) hq dcX0_findCover_92 (fun z18 H locs hM hq => ?_)
          refine lv_iinc (v := (x2 + 1)) (lv' := [(2, .int (x2 + 1)), (0, .ref (u r0)), (1, .ref (u r1))]) hx hb dcX0_findCover_93 hl (k := 2) rfl rfl (by decide) rfl (fun ls hl => ?_)
          refine lv_goto (tgt := 7) hx hb dcX0_findCover_96 (by decide) ?_
          exact ih_1 (x2 + 1) 0 r0 r1 z18 H locs ls hr0 hr1 hM (lv_sub hl [1, 2, 0] rfl) hq
      · intro x2 x3 r0 r1 z H locs ls hr0 hr1 hM hl hq
        have hq : cm_X0_findCover_2 vl K (c_X0_findCover vl K k) x2 x3 r0 r1 z = some z1 := hq
        unfold cm_X0_findCover_2 at hq
        refine lv_iload_n hx hb dcX0_findCover_108 rfl (lv_at hl 3 rfl) ?_
        refine lv_aload_n hx hb dcX0_findCover_109 rfl (lv_at hl 1 rfl) ?_
        refine vgX0_70 hx hb hT hown hK hM hr1 hq dcX0_findCover_110 (fun v19 hq => ?_)
        refine lv_icmp_ge (tgt := 194) hx hb dcX0_findCover_113 (by decide) (fun hc => ?_) (fun hc => ?_)
        · have hq := tw_it hq hc
          exact ih_4 x2 x3 r0 r1 z H locs ls hr0 hr1 hM (lv_sub hl [0, 1, 2, 3] rfl) hq
        · have hq := tw_if hq hc
          refine lv_iload_n hx hb dcX0_findCover_116 rfl (lv_at hl 3 rfl) ?_
          refine lv_aload_n hx hb dcX0_findCover_117 rfl (lv_at hl 0 rfl) ?_
          refine vgX0_82 hx hb hT hown hK hM hr0 hq dcX0_findCover_118 (fun v20 hq => ?_)
          refine lv_icmp_ge (tgt := 194) hx hb dcX0_findCover_121 (by decide) (fun hc => ?_) (fun hc => ?_)
          · have hq := tw_it hq hc
            exact ih_4 x2 x3 r0 r1 z H locs ls hr0 hr1 hM (lv_sub hl [0, 1, 2, 3] rfl) hq
          · have hq := tw_if hq hc
            refine lv_aload_n hx hb dcX0_findCover_124 rfl (lv_at hl 0 rfl) ?_
            refine lv_iload_n hx hb dcX0_findCover_125 rfl (lv_at hl 3 rfl) ?_
            refine lv_aload_n hx hb dcX0_findCover_126 rfl (lv_at hl 1 rfl) ?_
            refine vgX0_70 hx hb hT hown hK hM hr1 hq dcX0_findCover_127 (fun v21 hq => ?_)
            obtain ⟨v23, z22, hcq, hq⟩ := tw_cl1 hq
            refine uw_cali hU hM (va_runV (As := [.int x3, .int v21]) (rest := []) ⟨hx, hb, hml, hown, hts⟩ (kc_X0_isolate l D q vl u hU.1 K r0 x3 v21 hr0 z z22 v23 hcq) (cwV 2 hts (tw_gV wC_good xq_28 xq_29 xq_30 xq_24 xq_31) rfl rfl rfl cdd_X0_isolate ⟨(Nat.le_of_ble_eq_true rfl), (Nat.le_of_ble_eq_true rfl)⟩) (cw_preV hK hM (co_X0 hr0) rfl) rfl rfl hl.1 rfl (lv_room (Nat.le_of_ble_eq_true rfl)) dcX0_findCover_130 ⟨(Nat.le_of_ble_eq_true rfl), (Nat.le_of_ble_eq_true rfl)⟩) (fun H locs hM => ?_)
            refine lv_if_ne (tgt := 139) hx hb dcX0_findCover_133 (by decide) (fun hc => ?_) (fun hc => ?_)
            · have hq := tw_if hq hc
              refine lv_iinc (v := (x2 + 1)) (lv' := [(2, .int (x2 + 1)), (0, .ref (u r0)), (1, .ref (u r1)), (3, .int x3)]) hx hb dcX0_findCover_139 hl (k := 2) rfl rfl (by decide) rfl (fun ls hl => ?_)
              refine lv_aload_n hx hb dcX0_findCover_142 rfl (lv_at hl 1 rfl) ?_
              refine vgX0_17 hx hb hT hown hK hM hr0 dcX0_findCover_143 ?_
              refine lv_iload_n hx hb dcX0_findCover_146 rfl (lv_at hl 3 rfl) ?_
              refine ca_X0_2 hx hb hK hM hr0 hq dcX0_findCover_147 (fun j24 hj24 hq => ?_)
              refine lv_iload_n hx hb dcX0_findCover_148 rfl (lv_at hl 3 rfl) ?_
              refine uw_lald cX_ok hx hb hK hM (cg_X0_2 hr0 hj24) hq dcX0_findCover_149 (fun v25 hq => ?_)
              refine va_mabs_long hx hb (by rw [hml]; exact hl.1.symm) hown (hT _ xq_16) (hT _ xq_17) (hT _ xq_18) (hT _ xq_19) (Nat.le_of_ble_eq_true rfl) (Nat.le_of_ble_eq_true rfl) (Nat.le_of_ble_eq_true rfl) (Nat.le_of_ble_eq_true rfl) dcX0_findCover_150 ?_
              refine lv_lconst (v := 1) hx hb dcX0_findCover_153 rfl ?_
              refine W.lcmp hx hb dcX0_findCover_154 ?_
              refine lv_if_eq (tgt := 188) hx hb dcX0_findCover_155 (by decide) (fun hc => ?_) (fun hc => ?_)
              · have hq := tw_it hq hc
                exact ih_3 (x2 + 1) x3 r0 r1 z22 H locs ls hr0 hr1 hM (lv_sub hl [1, 2, 0, 3] rfl) hq
              · have hq := tw_if hq hc
                refine lv_aload_n hx hb dcX0_findCover_158 rfl (lv_at hl 1 rfl) ?_
                refine vgX0_20 hx hb hT hown hK hM hr0 dcX0_findCover_159 ?_
                refine lv_aload_n hx hb dcX0_findCover_162 rfl (lv_at hl 1 rfl) ?_
                refine vgX0_103 hx hb hT hown hK hM hr0 hq dcX0_findCover_163 (fun v26 hq => ?_)
                refine lv_aload_n hx hb dcX0_findCover_166 rfl (lv_at hl 1 rfl) ?_
                refine vgX0_17 hx hb hT hown hK hM hr0 dcX0_findCover_167 ?_
                refine lv_iload_n hx hb dcX0_findCover_170 rfl (lv_at hl 3 rfl) ?_
                refine ca_X0_2 hx hb hK hM hr0 hq dcX0_findCover_171 (fun j27 hj27 hq => ?_)
                refine lv_iload_n hx hb dcX0_findCover_172 rfl (lv_at hl 3 rfl) ?_
                refine uw_lald cX_ok hx hb hK hM (cg_X0_2 hr0 hj27) hq dcX0_findCover_173 (fun v28 hq => ?_)
                refine va_mabs_long hx hb (by rw [hml]; exact hl.1.symm) hown (hT _ xq_16) (hT _ xq_17) (hT _ xq_18) (hT _ xq_19) (Nat.le_of_ble_eq_true rfl) (Nat.le_of_ble_eq_true rfl) (Nat.le_of_ble_eq_true rfl) (Nat.le_of_ble_eq_true rfl) dcX0_findCover_174 ?_
                refine uw_last cX_ok hU hx hb hK hM (cr_X0_3 hr0) hq dcX0_findCover_177 (fun z29 H locs hM hq => ?_)
                refine lv_aload_n hx hb dcX0_findCover_178 rfl (lv_at hl 1 rfl) ?_
                refine lv_dup hx hb dcX0_findCover_179 rfl ?_
                refine vgX0_103 hx hb hT hown hK hM hr0 hq dcX0_findCover_180 (fun v30 hq => ?_)
                refine lv_iconst (v := 1) hx hb dcX0_findCover_183 (by decide) ?_
                refine lv_iadd hx hb dcX0_findCover_184 ?_
                refine vpX0_103 hx hb hT hown hK hM hU hr0 hq dcX0_findCover_185 (fun z31 H locs hM hq => ?_)
                exact ih_3 (x2 + 1) x3 r0 r1 z31 H locs ls hr0 hr1 hM (lv_sub hl [1, 2, 0, 3] rfl) hq
            · have hq := tw_it hq hc
              refine lv_goto (tgt := 194) hx hb dcX0_findCover_136 (by decide) ?_
              exact ih_4 x2 x3 r0 r1 z22 H locs ls hr0 hr1 hM (lv_sub hl [0, 1, 2, 3] rfl) hq
      · intro x2 x3 r0 r1 z H locs ls hr0 hr1 hM hl hq
        have hq : cm_X0_findCover_3 vl K (c_X0_findCover vl K k) x2 x3 r0 r1 z = some z1 := hq
        unfold cm_X0_findCover_3 at hq
        refine lv_iinc (v := (x3 + 1)) (lv' := [(3, .int (x3 + 1)), (0, .ref (u r0)), (1, .ref (u r1)), (2, .int x2)]) hx hb dcX0_findCover_188 hl (k := 3) rfl rfl (by decide) rfl (fun ls hl => ?_)
        refine lv_goto (tgt := 108) hx hb dcX0_findCover_191 (by decide) ?_
        exact ih_2 x2 (x3 + 1) r0 r1 z H locs ls hr0 hr1 hM (lv_sub hl [1, 2, 3, 0] rfl) hq
      · intro x2 x3 r0 r1 z H locs ls hr0 hr1 hM hl hq
        have hq : cm_X0_findCover_4 vl K (c_X0_findCover vl K k) x2 x3 r0 r1 z = some z1 := hq
        unfold cm_X0_findCover_4 at hq
        refine lv_iload_n hx hb dcX0_findCover_194 rfl (lv_at hl 2 rfl) ?_
        refine lv_iconst (v := 1) hx hb dcX0_findCover_195 (by decide) ?_
        refine lv_iadd hx hb dcX0_findCover_196 ?_
        refine lv_istore_n (lv' := [(3, .int (x2 + 1)), (0, .ref (u r0)), (1, .ref (u r1)), (2, .int x2)]) hx hb dcX0_findCover_197 rfl hl (by decide) rfl (fun ls hl => ?_)
        exact ih_5 x2 (x2 + 1) r0 r1 z H locs ls hr0 hr1 hM (lv_sub hl [1, 2, 3, 0] rfl) hq
      · intro x2 x3 r0 r1 z H locs ls hr0 hr1 hM hl hq
        have hq : cm_X0_findCover_5 vl K (c_X0_findCover vl K k) x2 x3 r0 r1 z = some z1 := hq
        unfold cm_X0_findCover_5 at hq
        refine lv_iload_n hx hb dcX0_findCover_198 rfl (lv_at hl 3 rfl) ?_
        refine lv_aload_n hx hb dcX0_findCover_199 rfl (lv_at hl 0 rfl) ?_
        refine vgX0_82 hx hb hT hown hK hM hr0 hq dcX0_findCover_200 (fun v32 hq => ?_)
        refine lv_icmp_ge (tgt := 232) hx hb dcX0_findCover_203 (by decide) (fun hc => ?_) (fun hc => ?_)
        · have hq := tw_it hq hc
          exact cw_vret hx hb hr hlocks hM hq hQQ dcX0_findCover_232
        · have hq := tw_if hq hc
          refine lv_aload_n hx hb dcX0_findCover_206 rfl (lv_at hl 0 rfl) ?_
          refine vgX0_20 hx hb hT hown hK hM hr0 dcX0_findCover_207 ?_
          refine lv_aload_n hx hb dcX0_findCover_210 rfl (lv_at hl 0 rfl) ?_
          refine vgX0_103 hx hb hT hown hK hM hr0 hq dcX0_findCover_211 (fun v33 hq => ?_)
          refine lv_lconst (v := 0) hx hb dcX0_findCover_214 rfl ?_
          refine uw_last cX_ok hU hx hb hK hM (cr_X0_3 hr0) hq dcX0_findCover_215 (fun z34 H locs hM hq => ?_)
          refine lv_aload_n hx hb dcX0_findCover_216 rfl (lv_at hl 0 rfl) ?_
          refine lv_dup hx hb dcX0_findCover_217 rfl ?_
          refine vgX0_103 hx hb hT hown hK hM hr0 hq dcX0_findCover_218 (fun v35 hq => ?_)
          refine lv_iconst (v := 1) hx hb dcX0_findCover_221 (by decide) ?_
          refine lv_iadd hx hb dcX0_findCover_222 ?_
          refine vpX0_103 hx hb hT hown hK hM hU hr0 hq dcX0_findCover_223 (fun z36 H locs hM hq => ?_)
          refine lv_iinc (v := (x3 + 1)) (lv' := [(3, .int (x3 + 1)), (0, .ref (u r0)), (1, .ref (u r1)), (2, .int x2)]) hx hb dcX0_findCover_226 hl (k := 3) rfl rfl (by decide) rfl (fun ls hl => ?_)
          refine lv_goto (tgt := 198) hx hb dcX0_findCover_229 (by decide) ?_
          exact ih_5 x2 (x3 + 1) r0 r1 z36 H locs ls hr0 hr1 hM (lv_sub hl [1, 2, 3, 0] rfl) hq
  exact (key K).1 0 0 r0 r1 z s.heap [] ls hr0 hr1 hM (lv_sub hl [0, 1] rfl) hq
theorem dcX0_coverAt_0 : decode cX0_coverAt 0 = .ok (.iload_n 1, 1) := by decide +kernel
theorem dcX0_coverAt_1 : decode cX0_coverAt 1 = .ok (.ifCond .lt 11, 3) := by decide +kernel
theorem dcX0_coverAt_4 : decode cX0_coverAt 4 = .ok (.iload_n 1, 1) := by decide +kernel
theorem dcX0_coverAt_5 : decode cX0_coverAt 5 = .ok (.aload_n 0, 1) := by decide +kernel
theorem dcX0_coverAt_6 : decode cX0_coverAt 6 = .ok (.getfield 103, 3) := by decide +kernel
theorem dcX0_coverAt_9 : decode cX0_coverAt 9 = .ok (.if_icmp .lt 7, 3) := by decide +kernel
theorem dcX0_coverAt_12 : decode cX0_coverAt 12 = .ok (.iconst (-1), 1) := by decide +kernel
theorem dcX0_coverAt_13 : decode cX0_coverAt 13 = .ok (.goto 10, 3) := by decide +kernel
theorem dcX0_coverAt_16 : decode cX0_coverAt 16 = .ok (.aload_n 0, 1) := by decide +kernel
theorem dcX0_coverAt_17 : decode cX0_coverAt 17 = .ok (.getfield 20, 3) := by decide +kernel
theorem dcX0_coverAt_20 : decode cX0_coverAt 20 = .ok (.iload_n 1, 1) := by decide +kernel
theorem dcX0_coverAt_21 : decode cX0_coverAt 21 = .ok (.laload, 1) := by decide +kernel
theorem dcX0_coverAt_22 : decode cX0_coverAt 22 = .ok (.l2i, 1) := by decide +kernel
theorem dcX0_coverAt_23 : decode cX0_coverAt 23 = .ok (.ireturn, 1) := by decide +kernel
def cm_X0_coverAt_0 (vl : Nat → Nat) (K : Nat) (go : Nat → Int32 → Nat → ow_MS → Option (Int32 × ow_MS)) (x1 : Int32) (r0 : Nat) (z : ow_MS) : Option (Int32 × ow_MS) :=
 (if x1 < 0 then go 1 x1 r0 z
 else rdF z (r0 + 5) fun v1 => (if x1 < v1 then crJ (cX vl) z (r0 + 4) x1 fun v2 => some (v2.toInt32, z)
 else go 1 x1 r0 z))
def cm_X0_coverAt_1 (vl : Nat → Nat) (K : Nat) (go : Nat → Int32 → Nat → ow_MS → Option (Int32 × ow_MS)) (x1 : Int32) (r0 : Nat) (z : ow_MS) : Option (Int32 × ow_MS) :=
 some ((-1), z)
def cb_X0_coverAt (vl : Nat → Nat) (K : Nat) (go : Nat → Int32 → Nat → ow_MS → Option (Int32 × ow_MS)) (L : Nat) (x1 : Int32) (r0 : Nat) (z : ow_MS) : Option (Int32 × ow_MS) := match L with
  | 0 => cm_X0_coverAt_0 vl K go x1 r0 z
  | 1 => cm_X0_coverAt_1 vl K go x1 r0 z
  | _ => none
def c_X0_coverAt (vl : Nat → Nat) (K : Nat) : Nat → Nat → Int32 → Nat → ow_MS → Option (Int32 × ow_MS)
  | 0 => fun _ _ _ _ => none
  | k + 1 => cb_X0_coverAt vl K (c_X0_coverAt vl K k)
def ce_X0_coverAt (vl : Nat → Nat) (K : Nat) (r0 : Nat) (x1 : Int32) (z : ow_MS) : Option (Int32 × ow_MS) := c_X0_coverAt vl K K 0 x1 r0 z
abbrev wc_X0_coverAt : List Cond := .code yX0_coverAt cX0_coverAt 2 (some .int) :: wC
theorem cdd_X0_coverAt : yX0_coverAt.cls = RX0 ∧ yX0_coverAt.cls ≠ "java/lang/invoke/MethodHandle" ∧ yX0_coverAt.cls ≠ "java/lang/invoke/VarHandle" ∧ (parseMethodDescriptor yX0_coverAt.desc).map (fun d => d.parameters.length) = some 1 := by decide +kernel
set_option maxHeartbeats 4000000 in
set_option maxRecDepth 100000 in
theorem kc_X0_coverAt (l : Launch) (D : va_G) (q : Nat → ClassId) (vl u : Nat → Nat) (hU0 : tw_inj (cX vl) u) (K : Nat) (r0 : Nat) (x1 : Int32) (hr0 : cw_X0 r0) (z z1 : ow_MS) (r : Int32) (hq : ce_X0_coverAt vl K r0 x1 z = some (r, z1)) : Met l yX0_coverAt wc_X0_coverAt ({ frames := 0, cells := 0, slots := 0, locals := 0 } : Room) (va_Pc [.ref (u r0), .int x1] (cw_pre D q vl u z)) (va_Qi (fun x (_ : Unit) => x = r) (fun _ t => va_P D vwCl (uw (cX vl) q u z1) t.heap) (tw_A (cX vl) u)) 0 0 (tw_A (cX vl) u) := by
  refine Met.ofW (cc := cX0_coverAt) (maxL := 2) (ret := (some .int)) (by decide) rfl ?_
  intro p e s m args below meth c s₁ B hml hv
  obtain ⟨rfl, hP, hK⟩ := hv
  have hx := B.exec
  have hb := B.bytes
  have hr := B.returns
  have hts := atoms_spec (ws := wc_X0_coverAt) B.pre
  have hT : ∀ w ∈ wC, w.before ([.ref (u r0), .int x1] : List Value).toArray s = true := fun w h => hts w (List.mem_cons_of_mem _ h)
  have hown : s.vm.findClass RX0 = some m.cls := findClass_of_methodNamed B.named
  have hlocks := B.notSynchronized
  have hU : uw_inj (cX vl) u (tw_A (cX vl) u) := ⟨hU0, fun h hh => ⟨h, hh, rfl⟩⟩
  have hM : uw_M D vwCl (cX vl) q (tw_A (cX vl) u) s.heap u z s.heap [] := ⟨hP, va_S.rf⟩
  have hl := lv_entry ([.ref (u r0), .int x1]) (n := 2) (Nat.le_of_ble_eq_true rfl)
  rw [lg_entry_eq]
  generalize (lg_sl ([.ref (u r0), .int x1]) ++ List.replicate (2 - (lg_sl ([.ref (u r0), .int x1])).length) Slot.unset).toArray = ls at hl ⊢
  have hl : lv_has ls 2 [(0, .ref (u r0)), (1, .int x1)] := hl
  refine ow_named (fun QQ hQQ => ?_)
  generalize ([.ref (u r0), .int x1] : List Value).toArray = args at hts hT hQQ ⊢
  have key : ∀ k : Nat, (∀ (x1 : Int32) (r0 : Nat) (z : ow_MS) (H : Heap) (locs : List Loc) (ls : Array Slot), cw_X0 r0 → uw_M D vwCl (cX vl) q (tw_A (cX vl) u) s.heap u z H locs → lv_has ls 2 [(0, .ref (u r0)), (1, .int x1)] → c_X0_coverAt vl K k 0 x1 r0 z = some (r, z1) → W p l e ({ frames := 0, cells := 0, slots := 0, locals := 0 } : Room) s m args below meth c H locs 0 0 QQ (F0 m 0 ls [])) ∧ (∀ (x1 : Int32) (r0 : Nat) (z : ow_MS) (H : Heap) (locs : List Loc) (ls : Array Slot), cw_X0 r0 → uw_M D vwCl (cX vl) q (tw_A (cX vl) u) s.heap u z H locs → lv_has ls 2 [(0, .ref (u r0)), (1, .int x1)] → c_X0_coverAt vl K k 1 x1 r0 z = some (r, z1) → W p l e ({ frames := 0, cells := 0, slots := 0, locals := 0 } : Room) s m args below meth c H locs 0 0 QQ (F0 m 12 ls [])) := by
    intro k
    induction k with
    | zero => exact ⟨fun _ _ _ _ _ _ _ _ _ hq => cw_no hq, fun _ _ _ _ _ _ _ _ _ hq => cw_no hq⟩
    | succ k ih =>
      obtain ⟨ih_0, ih_1⟩ := ih
      refine ⟨?_, ?_⟩
      · intro x1 r0 z H locs ls hr0 hM hl hq
        have hq : cm_X0_coverAt_0 vl K (c_X0_coverAt vl K k) x1 r0 z = some (r, z1) := hq
        unfold cm_X0_coverAt_0 at hq
        refine lv_iload_n hx hb dcX0_coverAt_0 rfl (lv_at hl 1 rfl) ?_
        refine lv_if_lt (tgt := 12) hx hb dcX0_coverAt_1 (by decide) (fun hc => ?_) (fun hc => ?_)
        · have hq := tw_it hq hc
          exact ih_1 x1 r0 z H locs ls hr0 hM (lv_sub hl [0, 1] rfl) hq
        · have hq := tw_if hq hc
          refine lv_iload_n hx hb dcX0_coverAt_4 rfl (lv_at hl 1 rfl) ?_
          refine lv_aload_n hx hb dcX0_coverAt_5 rfl (lv_at hl 0 rfl) ?_
          refine vgX0_103 hx hb hT hown hK hM hr0 hq dcX0_coverAt_6 (fun v1 hq => ?_)
          refine lv_icmp_lt (tgt := 16) hx hb dcX0_coverAt_9 (by decide) (fun hc => ?_) (fun hc => ?_)
          · have hq := tw_it hq hc
            refine lv_aload_n hx hb dcX0_coverAt_16 rfl (lv_at hl 0 rfl) ?_
            refine vgX0_20 hx hb hT hown hK hM hr0 dcX0_coverAt_17 ?_
            refine lv_iload_n hx hb dcX0_coverAt_20 rfl (lv_at hl 1 rfl) ?_
            refine uw_lald cX_ok hx hb hK hM (cr_X0_3 hr0) hq dcX0_coverAt_21 (fun v2 hq => ?_)
            refine lv_l2i hx hb dcX0_coverAt_22 rfl ?_
            exact cw_iret hx hb hr hlocks hM hq hQQ dcX0_coverAt_23
          · have hq := tw_if hq hc
            exact ih_1 x1 r0 z H locs ls hr0 hM (lv_sub hl [0, 1] rfl) hq
      · intro x1 r0 z H locs ls hr0 hM hl hq
        have hq : cm_X0_coverAt_1 vl K (c_X0_coverAt vl K k) x1 r0 z = some (r, z1) := hq
        unfold cm_X0_coverAt_1 at hq
        refine lv_iconst (v := (-1)) hx hb dcX0_coverAt_12 (by decide) ?_
        refine lv_goto (tgt := 23) hx hb dcX0_coverAt_13 (by decide) ?_
        exact cw_iret hx hb hr hlocks hM hq hQQ dcX0_coverAt_23
  exact (key K).1 x1 r0 z s.heap [] ls hr0 hM (lv_sub hl [0, 1] rfl) hq
theorem dcX0_commonDivisor_0 : decode cX0_commonDivisor 0 = .ok (.lload_n 0, 1) := dw_at cX0_commonDivisor_k0 (p := 0) rfl (by decide +kernel)
theorem dcX0_commonDivisor_1 : decode cX0_commonDivisor 1 = .ok (.lstore 4, 2) := dw_at cX0_commonDivisor_k0 (p := 1) rfl (by decide +kernel)
theorem dcX0_commonDivisor_3 : decode cX0_commonDivisor 3 = .ok (.lload_n 2, 1) := dw_at cX0_commonDivisor_k0 (p := 3) rfl (by decide +kernel)
theorem dcX0_commonDivisor_4 : decode cX0_commonDivisor 4 = .ok (.lstore 6, 2) := dw_at cX0_commonDivisor_k0 (p := 4) rfl (by decide +kernel)
theorem dcX0_commonDivisor_6 : decode cX0_commonDivisor 6 = .ok (.iconst 0, 1) := dw_at cX0_commonDivisor_k0 (p := 6) rfl (by decide +kernel)
theorem dcX0_commonDivisor_7 : decode cX0_commonDivisor 7 = .ok (.istore 8, 2) := dw_at cX0_commonDivisor_k0 (p := 7) rfl (by decide +kernel)
theorem dcX0_commonDivisor_9 : decode cX0_commonDivisor 9 = .ok (.iload 8, 2) := dw_at cX0_commonDivisor_k0 (p := 9) rfl (by decide +kernel)
theorem dcX0_commonDivisor_11 : decode cX0_commonDivisor 11 = .ok (.sipush 200, 3) := dw_at cX0_commonDivisor_k0 (p := 11) rfl (by decide +kernel)
theorem dcX0_commonDivisor_14 : decode cX0_commonDivisor 14 = .ok (.if_icmp .ge 31, 3) := dw_at cX0_commonDivisor_k0 (p := 14) rfl (by decide +kernel)
theorem dcX0_commonDivisor_17 : decode cX0_commonDivisor 17 = .ok (.lload 6, 2) := dw_at cX0_commonDivisor_k0 (p := 17) rfl (by decide +kernel)
theorem dcX0_commonDivisor_19 : decode cX0_commonDivisor 19 = .ok (.lconst 0, 1) := dw_at cX0_commonDivisor_k0 (p := 19) rfl (by decide +kernel)
theorem dcX0_commonDivisor_20 : decode cX0_commonDivisor 20 = .ok (.lcmp, 1) := dw_at cX0_commonDivisor_k0 (p := 20) rfl (by decide +kernel)
theorem dcX0_commonDivisor_21 : decode cX0_commonDivisor 21 = .ok (.ifCond .eq 24, 3) := dw_at cX0_commonDivisor_k0 (p := 21) rfl (by decide +kernel)
theorem dcX0_commonDivisor_24 : decode cX0_commonDivisor 24 = .ok (.lload 4, 2) := dw_at cX0_commonDivisor_k1 (p := 0) rfl (by decide +kernel)
theorem dcX0_commonDivisor_26 : decode cX0_commonDivisor 26 = .ok (.lload 6, 2) := dw_at cX0_commonDivisor_k1 (p := 2) rfl (by decide +kernel)
theorem dcX0_commonDivisor_28 : decode cX0_commonDivisor 28 = .ok (.lrem, 1) := dw_at cX0_commonDivisor_k1 (p := 4) rfl (by decide +kernel)
theorem dcX0_commonDivisor_29 : decode cX0_commonDivisor 29 = .ok (.lstore 9, 2) := dw_at cX0_commonDivisor_k1 (p := 5) rfl (by decide +kernel)
theorem dcX0_commonDivisor_31 : decode cX0_commonDivisor 31 = .ok (.lload 6, 2) := dw_at cX0_commonDivisor_k1 (p := 7) rfl (by decide +kernel)
theorem dcX0_commonDivisor_33 : decode cX0_commonDivisor 33 = .ok (.lstore 4, 2) := dw_at cX0_commonDivisor_k1 (p := 9) rfl (by decide +kernel)
theorem dcX0_commonDivisor_35 : decode cX0_commonDivisor 35 = .ok (.lload 9, 2) := dw_at cX0_commonDivisor_k1 (p := 11) rfl (by decide +kernel)
theorem dcX0_commonDivisor_37 : decode cX0_commonDivisor 37 = .ok (.lstore 6, 2) := dw_at cX0_commonDivisor_k1 (p := 13) rfl (by decide +kernel)
theorem dcX0_commonDivisor_39 : decode cX0_commonDivisor 39 = .ok (.iinc 8 1, 3) := dw_at cX0_commonDivisor_k1 (p := 15) rfl (by decide +kernel)
theorem dcX0_commonDivisor_42 : decode cX0_commonDivisor 42 = .ok (.goto (-33), 3) := dw_at cX0_commonDivisor_k1 (p := 18) rfl (by decide +kernel)
theorem dcX0_commonDivisor_45 : decode cX0_commonDivisor 45 = .ok (.lload 4, 2) := dw_at cX0_commonDivisor_k1 (p := 21) rfl (by decide +kernel)
theorem dcX0_commonDivisor_47 : decode cX0_commonDivisor 47 = .ok (.lreturn, 1) := dw_at cX0_commonDivisor_k1 (p := 23) rfl (by decide +kernel)
def cm_X0_commonDivisor_0 (vl : Nat → Nat) (K : Nat) (go : Nat → Int32 → Int64 → Int64 → Int64 → Int64 → ow_MS → Option (Int64 × ow_MS)) (x8 : Int32) (w0 : Int64) (w2 : Int64) (w4 : Int64) (w6 : Int64) (z : ow_MS) : Option (Int64 × ow_MS) :=
 go 1 0 w0 w2 w0 w2 z
def cm_X0_commonDivisor_1 (vl : Nat → Nat) (K : Nat) (go : Nat → Int32 → Int64 → Int64 → Int64 → Int64 → ow_MS → Option (Int64 × ow_MS)) (x8 : Int32) (w0 : Int64) (w2 : Int64) (w4 : Int64) (w6 : Int64) (z : ow_MS) : Option (Int64 × ow_MS) :=
 (if 200 ≤ x8 then some (w4, z)
 else (if (lg_cmp w6 0) = 0 then some (w4, z)
 else nzJ w6 (go 1 (x8 + 1) w0 w2 w6 (w4 - w4 / w6 * w6) z)))
def cb_X0_commonDivisor (vl : Nat → Nat) (K : Nat) (go : Nat → Int32 → Int64 → Int64 → Int64 → Int64 → ow_MS → Option (Int64 × ow_MS)) (L : Nat) (x8 : Int32) (w0 : Int64) (w2 : Int64) (w4 : Int64) (w6 : Int64) (z : ow_MS) : Option (Int64 × ow_MS) := match L with
  | 0 => cm_X0_commonDivisor_0 vl K go x8 w0 w2 w4 w6 z
  | 1 => cm_X0_commonDivisor_1 vl K go x8 w0 w2 w4 w6 z
  | _ => none
def c_X0_commonDivisor (vl : Nat → Nat) (K : Nat) : Nat → Nat → Int32 → Int64 → Int64 → Int64 → Int64 → ow_MS → Option (Int64 × ow_MS)
  | 0 => fun _ _ _ _ _ _ _ => none
  | k + 1 => cb_X0_commonDivisor vl K (c_X0_commonDivisor vl K k)
def ce_X0_commonDivisor (vl : Nat → Nat) (K : Nat) (w0 : Int64) (w2 : Int64) (z : ow_MS) : Option (Int64 × ow_MS) := c_X0_commonDivisor vl K K 0 0 w0 w2 0 0 z
abbrev wc_X0_commonDivisor : List Cond := .code yX0_commonDivisor cX0_commonDivisor 11 (some .long) :: wC
theorem cdd_X0_commonDivisor : yX0_commonDivisor.cls ≠ "java/lang/invoke/MethodHandle" ∧ yX0_commonDivisor.cls ≠ "java/lang/invoke/VarHandle" ∧ (parseMethodDescriptor yX0_commonDivisor.desc).map (fun d => d.parameters.length) = some 2 := by decide +kernel
set_option maxHeartbeats 4000000 in
set_option maxRecDepth 100000 in
theorem kc_X0_commonDivisor (l : Launch) (D : va_G) (q : Nat → ClassId) (vl u : Nat → Nat) (hU0 : tw_inj (cX vl) u) (K : Nat) (w0 : Int64) (w2 : Int64)  (z z1 : ow_MS) (r : Int64) (hq : ce_X0_commonDivisor vl K w0 w2 z = some (r, z1)) : Met l yX0_commonDivisor wc_X0_commonDivisor ({ frames := 0, cells := 0, slots := 0, locals := 0 } : Room) (va_Pc [.long w0, .long w2] (cw_pre D q vl u z)) (va_Ql (fun x (_ : Unit) => x = r) (fun _ t => va_P D vwCl (uw (cX vl) q u z1) t.heap) (tw_A (cX vl) u)) 0 0 (tw_A (cX vl) u) := by
  refine Met.ofW (cc := cX0_commonDivisor) (maxL := 11) (ret := (some .long)) (by decide) rfl ?_
  intro p e s m args below meth c s₁ B hml hv
  obtain ⟨rfl, hP, hK⟩ := hv
  have hx := B.exec
  have hb := B.bytes
  have hr := B.returns
  have hts := atoms_spec (ws := wc_X0_commonDivisor) B.pre
  have hT : ∀ w ∈ wC, w.before ([.long w0, .long w2] : List Value).toArray s = true := fun w h => hts w (List.mem_cons_of_mem _ h)
  have hown : s.vm.findClass RX0 = some m.cls := findClass_of_methodNamed B.named
  have hlocks := B.notSynchronized
  have hU : uw_inj (cX vl) u (tw_A (cX vl) u) := ⟨hU0, fun h hh => ⟨h, hh, rfl⟩⟩
  have hM : uw_M D vwCl (cX vl) q (tw_A (cX vl) u) s.heap u z s.heap [] := ⟨hP, va_S.rf⟩
  have hl := lv_entry ([.long w0, .long w2]) (n := 11) (Nat.le_of_ble_eq_true rfl)
  rw [lg_entry_eq]
  generalize (lg_sl ([.long w0, .long w2]) ++ List.replicate (11 - (lg_sl ([.long w0, .long w2])).length) Slot.unset).toArray = ls at hl ⊢
  have hl : lv_has ls 11 [(0, .long w0), (2, .long w2)] := hl
  refine ow_named (fun QQ hQQ => ?_)
  generalize ([.long w0, .long w2] : List Value).toArray = args at hts hT hQQ ⊢
  have key : ∀ k : Nat, (∀ (x8 : Int32) (w0 : Int64) (w2 : Int64) (w4 : Int64) (w6 : Int64) (z : ow_MS) (H : Heap) (locs : List Loc) (ls : Array Slot), uw_M D vwCl (cX vl) q (tw_A (cX vl) u) s.heap u z H locs → lv_has ls 11 [(0, .long w0), (2, .long w2)] → c_X0_commonDivisor vl K k 0 x8 w0 w2 w4 w6 z = some (r, z1) → W p l e ({ frames := 0, cells := 0, slots := 0, locals := 0 } : Room) s m args below meth c H locs 0 0 QQ (F0 m 0 ls [])) ∧ (∀ (x8 : Int32) (w0 : Int64) (w2 : Int64) (w4 : Int64) (w6 : Int64) (z : ow_MS) (H : Heap) (locs : List Loc) (ls : Array Slot), uw_M D vwCl (cX vl) q (tw_A (cX vl) u) s.heap u z H locs → lv_has ls 11 [(0, .long w0), (2, .long w2), (4, .long w4), (6, .long w6), (8, .int x8)] → c_X0_commonDivisor vl K k 1 x8 w0 w2 w4 w6 z = some (r, z1) → W p l e ({ frames := 0, cells := 0, slots := 0, locals := 0 } : Room) s m args below meth c H locs 0 0 QQ (F0 m 9 ls [])) := by
    intro k
    induction k with
    | zero => exact ⟨fun _ _ _ _ _ _ _ _ _  _ _ hq => cw_no hq, fun _ _ _ _ _ _ _ _ _  _ _ hq => cw_no hq⟩
    | succ k ih =>
      obtain ⟨ih_0, ih_1⟩ := ih
      refine ⟨?_, ?_⟩
      · intro x8 w0 w2 w4 w6 z H locs ls  hM hl hq
        have hq : cm_X0_commonDivisor_0 vl K (c_X0_commonDivisor vl K k) x8 w0 w2 w4 w6 z = some (r, z1) := hq
        unfold cm_X0_commonDivisor_0 at hq
        refine lv_lload_n hx hb dcX0_commonDivisor_0 rfl (lv_at hl 0 rfl) ?_
        refine lv_lstore (lv' := [(4, .long w0), (0, .long w0), (2, .long w2)]) hx hb dcX0_commonDivisor_1 hl (by decide) rfl (fun ls hl => ?_)
        refine lv_lload_n hx hb dcX0_commonDivisor_3 rfl (lv_at hl 2 rfl) ?_
        refine lv_lstore (lv' := [(6, .long w2), (4, .long w0), (0, .long w0), (2, .long w2)]) hx hb dcX0_commonDivisor_4 hl (by decide) rfl (fun ls hl => ?_)
        refine lv_iconst (v := 0) hx hb dcX0_commonDivisor_6 (by decide) ?_
        refine lv_istore (lv' := [(8, .int 0), (6, .long w2), (4, .long w0), (0, .long w0), (2, .long w2)]) hx hb dcX0_commonDivisor_7 hl (by decide) rfl (fun ls hl => ?_)
        exact ih_1 0 w0 w2 w0 w2 z H locs ls hM (lv_sub hl [3, 4, 2, 1, 0] rfl) hq
      · intro x8 w0 w2 w4 w6 z H locs ls  hM hl hq
        have hq : cm_X0_commonDivisor_1 vl K (c_X0_commonDivisor vl K k) x8 w0 w2 w4 w6 z = some (r, z1) := hq
        unfold cm_X0_commonDivisor_1 at hq
        refine lv_iload hx hb dcX0_commonDivisor_9 (lv_at hl 4 rfl) ?_
        refine lv_sipush (v := 200) hx hb dcX0_commonDivisor_11 (by decide) ?_
        refine lv_icmp_ge (tgt := 45) hx hb dcX0_commonDivisor_14 (by decide) (fun hc => ?_) (fun hc => ?_)
        · have hq := tw_it hq hc
          refine lv_lload hx hb dcX0_commonDivisor_45 (lv_at hl 2 rfl) ?_
          exact cw_lret hx hb hr hlocks hM hq hQQ dcX0_commonDivisor_47
        · have hq := tw_if hq hc
          refine lv_lload hx hb dcX0_commonDivisor_17 (lv_at hl 3 rfl) ?_
          refine lv_lconst (v := 0) hx hb dcX0_commonDivisor_19 rfl ?_
          refine W.lcmp hx hb dcX0_commonDivisor_20 ?_
          refine lv_if_eq (tgt := 45) hx hb dcX0_commonDivisor_21 (by decide) (fun hc => ?_) (fun hc => ?_)
          · have hq := tw_it hq hc
            refine lv_lload hx hb dcX0_commonDivisor_45 (lv_at hl 2 rfl) ?_
            exact cw_lret hx hb hr hlocks hM hq hQQ dcX0_commonDivisor_47
          · have hq := tw_if hq hc
            refine lv_lload hx hb dcX0_commonDivisor_24 (lv_at hl 2 rfl) ?_
            refine lv_lload hx hb dcX0_commonDivisor_26 (lv_at hl 3 rfl) ?_
            obtain ⟨hz, hq⟩ := tw_nzJ hq
            refine lv_lrem hx hb dcX0_commonDivisor_28 hz ?_
            refine lv_lstore (lv' := [(9, .long (w4 - w4 / w6 * w6)), (0, .long w0), (2, .long w2), (4, .long w4), (6, .long w6), (8, .int x8)]) hx hb dcX0_commonDivisor_29 hl (by decide) rfl (fun ls hl => ?_)
            refine lv_lload hx hb dcX0_commonDivisor_31 (lv_at hl 4 rfl) ?_
            refine lv_lstore (lv' := [(4, .long w6), (9, .long (w4 - w4 / w6 * w6)), (0, .long w0), (2, .long w2), (6, .long w6), (8, .int x8)]) hx hb dcX0_commonDivisor_33 hl (by decide) rfl (fun ls hl => ?_)
            refine lv_lload hx hb dcX0_commonDivisor_35 (lv_at hl 1 rfl) ?_
            refine lv_lstore (lv' := [(6, .long (w4 - w4 / w6 * w6)), (4, .long w6), (9, .long (w4 - w4 / w6 * w6)), (0, .long w0), (2, .long w2), (8, .int x8)]) hx hb dcX0_commonDivisor_37 hl (by decide) rfl (fun ls hl => ?_)
            refine lv_iinc (v := (x8 + 1)) (lv' := [(8, .int (x8 + 1)), (6, .long (w4 - w4 / w6 * w6)), (4, .long w6), (9, .long (w4 - w4 / w6 * w6)), (0, .long w0), (2, .long w2)]) hx hb dcX0_commonDivisor_39 hl (k := 5) rfl rfl (by decide) rfl (fun ls hl => ?_)
            refine lv_goto (tgt := 9) hx hb dcX0_commonDivisor_42 (by decide) ?_
            exact ih_1 (x8 + 1) w0 w2 w6 (w4 - w4 / w6 * w6) z H locs ls hM (lv_sub hl [4, 5, 2, 1, 0] rfl) hq
  exact (key K).1 0 w0 w2 0 0 z s.heap [] ls  hM (lv_sub hl [0, 1] rfl) hq
theorem dcX0_countColours_0 : decode cX0_countColours 0 = .ok (.iload_n 1, 1) := by decide +kernel
theorem dcX0_countColours_1 : decode cX0_countColours 1 = .ok (.i2l, 1) := by decide +kernel
theorem dcX0_countColours_2 : decode cX0_countColours 2 = .ok (.lstore_n 2, 1) := by decide +kernel
theorem dcX0_countColours_3 : decode cX0_countColours 3 = .ok (.iconst 0, 1) := by decide +kernel
theorem dcX0_countColours_4 : decode cX0_countColours 4 = .ok (.istore 4, 2) := by decide +kernel
theorem dcX0_countColours_6 : decode cX0_countColours 6 = .ok (.iload 4, 2) := by decide +kernel
theorem dcX0_countColours_8 : decode cX0_countColours 8 = .ok (.aload_n 0, 1) := by decide +kernel
theorem dcX0_countColours_9 : decode cX0_countColours 9 = .ok (.getfield 103, 3) := by decide +kernel
theorem dcX0_countColours_12 : decode cX0_countColours 12 = .ok (.if_icmp .ge 24, 3) := by decide +kernel
theorem dcX0_countColours_15 : decode cX0_countColours 15 = .ok (.lload_n 2, 1) := by decide +kernel
theorem dcX0_countColours_16 : decode cX0_countColours 16 = .ok (.iload_n 1, 1) := by decide +kernel
theorem dcX0_countColours_17 : decode cX0_countColours 17 = .ok (.i2l, 1) := by decide +kernel
theorem dcX0_countColours_18 : decode cX0_countColours 18 = .ok (.aload_n 0, 1) := by decide +kernel
theorem dcX0_countColours_19 : decode cX0_countColours 19 = .ok (.getfield 20, 3) := by decide +kernel
theorem dcX0_countColours_22 : decode cX0_countColours 22 = .ok (.iload 4, 2) := by decide +kernel
theorem dcX0_countColours_24 : decode cX0_countColours 24 = .ok (.laload, 1) := by decide +kernel
theorem dcX0_countColours_25 : decode cX0_countColours 25 = .ok (.invokestatic 125, 3) := by decide +kernel
theorem dcX0_countColours_28 : decode cX0_countColours 28 = .ok (.lmul, 1) := by decide +kernel
theorem dcX0_countColours_29 : decode cX0_countColours 29 = .ok (.lstore_n 2, 1) := by decide +kernel
theorem dcX0_countColours_30 : decode cX0_countColours 30 = .ok (.iinc 4 1, 3) := by decide +kernel
theorem dcX0_countColours_33 : decode cX0_countColours 33 = .ok (.goto (-27), 3) := by decide +kernel
theorem dcX0_countColours_36 : decode cX0_countColours 36 = .ok (.lload_n 2, 1) := by decide +kernel
theorem dcX0_countColours_37 : decode cX0_countColours 37 = .ok (.lreturn, 1) := by decide +kernel
def cm_X0_countColours_0 (vl : Nat → Nat) (K : Nat) (go : Nat → Int32 → Int32 → Int64 → Nat → ow_MS → Option (Int64 × ow_MS)) (x1 : Int32) (x4 : Int32) (w2 : Int64) (r0 : Nat) (z : ow_MS) : Option (Int64 × ow_MS) :=
 go 1 x1 0 x1.toInt64 r0 z
def cm_X0_countColours_1 (vl : Nat → Nat) (K : Nat) (go : Nat → Int32 → Int32 → Int64 → Nat → ow_MS → Option (Int64 × ow_MS)) (x1 : Int32) (x4 : Int32) (w2 : Int64) (r0 : Nat) (z : ow_MS) : Option (Int64 × ow_MS) :=
 rdF z (r0 + 5) fun v1 => (if v1 ≤ x4 then some (w2, z)
 else crJ (cX vl) z (r0 + 4) x4 fun v2 => cs1 (ce_X0_commonDivisor vl K x1.toInt64 v2 z) fun v4 z3 => go 1 x1 (x4 + 1) (w2 * v4) r0 z3)
def cb_X0_countColours (vl : Nat → Nat) (K : Nat) (go : Nat → Int32 → Int32 → Int64 → Nat → ow_MS → Option (Int64 × ow_MS)) (L : Nat) (x1 : Int32) (x4 : Int32) (w2 : Int64) (r0 : Nat) (z : ow_MS) : Option (Int64 × ow_MS) := match L with
  | 0 => cm_X0_countColours_0 vl K go x1 x4 w2 r0 z
  | 1 => cm_X0_countColours_1 vl K go x1 x4 w2 r0 z
  | _ => none
def c_X0_countColours (vl : Nat → Nat) (K : Nat) : Nat → Nat → Int32 → Int32 → Int64 → Nat → ow_MS → Option (Int64 × ow_MS)
  | 0 => fun _ _ _ _ _ _ => none
  | k + 1 => cb_X0_countColours vl K (c_X0_countColours vl K k)
def ce_X0_countColours (vl : Nat → Nat) (K : Nat) (r0 : Nat) (x1 : Int32) (z : ow_MS) : Option (Int64 × ow_MS) := c_X0_countColours vl K K 0 x1 0 0 r0 z
abbrev wc_X0_countColours : List Cond := .code yX0_countColours cX0_countColours 5 (some .long) :: wC
theorem cdd_X0_countColours : yX0_countColours.cls = RX0 ∧ yX0_countColours.cls ≠ "java/lang/invoke/MethodHandle" ∧ yX0_countColours.cls ≠ "java/lang/invoke/VarHandle" ∧ (parseMethodDescriptor yX0_countColours.desc).map (fun d => d.parameters.length) = some 1 := by decide +kernel
set_option maxHeartbeats 4000000 in
set_option maxRecDepth 100000 in
theorem kc_X0_countColours (l : Launch) (D : va_G) (q : Nat → ClassId) (vl u : Nat → Nat) (hU0 : tw_inj (cX vl) u) (K : Nat) (r0 : Nat) (x1 : Int32) (hr0 : cw_X0 r0) (z z1 : ow_MS) (r : Int64) (hq : ce_X0_countColours vl K r0 x1 z = some (r, z1)) : Met l yX0_countColours wc_X0_countColours ({ frames := 1, cells := 0, slots := 0, locals := 30 } : Room) (va_Pc [.ref (u r0), .int x1] (cw_pre D q vl u z)) (va_Ql (fun x (_ : Unit) => x = r) (fun _ t => va_P D vwCl (uw (cX vl) q u z1) t.heap) (tw_A (cX vl) u)) 0 0 (tw_A (cX vl) u) := by
  refine Met.ofW (cc := cX0_countColours) (maxL := 5) (ret := (some .long)) (by decide) rfl ?_
  intro p e s m args below meth c s₁ B hml hv
  obtain ⟨rfl, hP, hK⟩ := hv
  have hx := B.exec
  have hb := B.bytes
  have hr := B.returns
  have hts := atoms_spec (ws := wc_X0_countColours) B.pre
  have hT : ∀ w ∈ wC, w.before ([.ref (u r0), .int x1] : List Value).toArray s = true := fun w h => hts w (List.mem_cons_of_mem _ h)
  have hown : s.vm.findClass RX0 = some m.cls := findClass_of_methodNamed B.named
  have hlocks := B.notSynchronized
  have hU : uw_inj (cX vl) u (tw_A (cX vl) u) := ⟨hU0, fun h hh => ⟨h, hh, rfl⟩⟩
  have hM : uw_M D vwCl (cX vl) q (tw_A (cX vl) u) s.heap u z s.heap [] := ⟨hP, va_S.rf⟩
  have hl := lv_entry ([.ref (u r0), .int x1]) (n := 5) (Nat.le_of_ble_eq_true rfl)
  rw [lg_entry_eq]
  generalize (lg_sl ([.ref (u r0), .int x1]) ++ List.replicate (5 - (lg_sl ([.ref (u r0), .int x1])).length) Slot.unset).toArray = ls at hl ⊢
  have hl : lv_has ls 5 [(0, .ref (u r0)), (1, .int x1)] := hl
  refine ow_named (fun QQ hQQ => ?_)
  generalize ([.ref (u r0), .int x1] : List Value).toArray = args at hts hT hQQ ⊢
  have key : ∀ k : Nat, (∀ (x1 : Int32) (x4 : Int32) (w2 : Int64) (r0 : Nat) (z : ow_MS) (H : Heap) (locs : List Loc) (ls : Array Slot), cw_X0 r0 → uw_M D vwCl (cX vl) q (tw_A (cX vl) u) s.heap u z H locs → lv_has ls 5 [(0, .ref (u r0)), (1, .int x1)] → c_X0_countColours vl K k 0 x1 x4 w2 r0 z = some (r, z1) → W p l e ({ frames := 1, cells := 0, slots := 0, locals := 30 } : Room) s m args below meth c H locs 0 0 QQ (F0 m 0 ls [])) ∧ (∀ (x1 : Int32) (x4 : Int32) (w2 : Int64) (r0 : Nat) (z : ow_MS) (H : Heap) (locs : List Loc) (ls : Array Slot), cw_X0 r0 → uw_M D vwCl (cX vl) q (tw_A (cX vl) u) s.heap u z H locs → lv_has ls 5 [(0, .ref (u r0)), (1, .int x1), (2, .long w2), (4, .int x4)] → c_X0_countColours vl K k 1 x1 x4 w2 r0 z = some (r, z1) → W p l e ({ frames := 1, cells := 0, slots := 0, locals := 30 } : Room) s m args below meth c H locs 0 0 QQ (F0 m 6 ls [])) := by
    intro k
    induction k with
    | zero => exact ⟨fun _ _ _ _ _ _ _ _ _ _ _ hq => cw_no hq, fun _ _ _ _ _ _ _ _ _ _ _ hq => cw_no hq⟩
    | succ k ih =>
      obtain ⟨ih_0, ih_1⟩ := ih
      refine ⟨?_, ?_⟩
      · intro x1 x4 w2 r0 z H locs ls hr0 hM hl hq
        have hq : cm_X0_countColours_0 vl K (c_X0_countColours vl K k) x1 x4 w2 r0 z = some (r, z1) := hq
        unfold cm_X0_countColours_0 at hq
        refine lv_iload_n hx hb dcX0_countColours_0 rfl (lv_at hl 1 rfl) ?_
        refine lv_i2l hx hb dcX0_countColours_1 rfl ?_
        refine lv_lstore_n (lv' := [(2, .long x1.toInt64), (0, .ref (u r0)), (1, .int x1)]) hx hb dcX0_countColours_2 rfl hl (by decide) rfl (fun ls hl => ?_)
        refine lv_iconst (v := 0) hx hb dcX0_countColours_3 (by decide) ?_
        refine lv_istore (lv' := [(4, .int 0), (2, .long x1.toInt64), (0, .ref (u r0)), (1, .int x1)]) hx hb dcX0_countColours_4 hl (by decide) rfl (fun ls hl => ?_)
        exact ih_1 x1 0 x1.toInt64 r0 z H locs ls hr0 hM (lv_sub hl [2, 3, 1, 0] rfl) hq
      · intro x1 x4 w2 r0 z H locs ls hr0 hM hl hq
        have hq : cm_X0_countColours_1 vl K (c_X0_countColours vl K k) x1 x4 w2 r0 z = some (r, z1) := hq
        unfold cm_X0_countColours_1 at hq
        refine lv_iload hx hb dcX0_countColours_6 (lv_at hl 3 rfl) ?_
        refine lv_aload_n hx hb dcX0_countColours_8 rfl (lv_at hl 0 rfl) ?_
        refine vgX0_103 hx hb hT hown hK hM hr0 hq dcX0_countColours_9 (fun v1 hq => ?_)
        refine lv_icmp_ge (tgt := 36) hx hb dcX0_countColours_12 (by decide) (fun hc => ?_) (fun hc => ?_)
        · have hq := tw_it hq hc
          refine lv_lload_n hx hb dcX0_countColours_36 rfl (lv_at hl 2 rfl) ?_
          exact cw_lret hx hb hr hlocks hM hq hQQ dcX0_countColours_37
        · have hq := tw_if hq hc
          refine lv_lload_n hx hb dcX0_countColours_15 rfl (lv_at hl 2 rfl) ?_
          refine lv_iload_n hx hb dcX0_countColours_16 rfl (lv_at hl 1 rfl) ?_
          refine lv_i2l hx hb dcX0_countColours_17 rfl ?_
          refine lv_aload_n hx hb dcX0_countColours_18 rfl (lv_at hl 0 rfl) ?_
          refine vgX0_20 hx hb hT hown hK hM hr0 dcX0_countColours_19 ?_
          refine lv_iload hx hb dcX0_countColours_22 (lv_at hl 3 rfl) ?_
          refine uw_lald cX_ok hx hb hK hM (cr_X0_3 hr0) hq dcX0_countColours_24 (fun v2 hq => ?_)
          obtain ⟨v4, z3, hcq, hq⟩ := tw_cl1 hq
          refine uw_call hU hM (va_runS (As := [.long x1.toInt64, .long v2]) (rest := [.long w2]) ⟨hx, hb, hml, hown, hts⟩ (kc_X0_commonDivisor l D q vl u hU.1 K x1.toInt64 v2 z z3 v4 hcq) (va_cwS 2 hts (tw_gS wC_good xq_46 xq_47 xq_24 xq_48) rfl rfl rfl cdd_X0_commonDivisor ⟨(Nat.le_of_ble_eq_true rfl), (Nat.le_of_ble_eq_true rfl)⟩) (cw_preS hK hM) rfl rfl hl.1 rfl (lv_room (Nat.le_of_ble_eq_true rfl)) dcX0_countColours_25 ⟨(Nat.le_of_ble_eq_true rfl), (Nat.le_of_ble_eq_true rfl)⟩) (fun H locs hM => ?_)
          refine lv_lmul hx hb dcX0_countColours_28 ?_
          refine lv_lstore_n (lv' := [(2, .long (w2 * v4)), (0, .ref (u r0)), (1, .int x1), (4, .int x4)]) hx hb dcX0_countColours_29 rfl hl (by decide) rfl (fun ls hl => ?_)
          refine lv_iinc (v := (x4 + 1)) (lv' := [(4, .int (x4 + 1)), (2, .long (w2 * v4)), (0, .ref (u r0)), (1, .int x1)]) hx hb dcX0_countColours_30 hl (k := 3) rfl rfl (by decide) rfl (fun ls hl => ?_)
          refine lv_goto (tgt := 6) hx hb dcX0_countColours_33 (by decide) ?_
          exact ih_1 x1 (x4 + 1) (w2 * v4) r0 z3 H locs ls hr0 hM (lv_sub hl [2, 3, 1, 0] rfl) hq
  exact (key K).1 x1 0 0 r0 z s.heap [] ls hr0 hM (lv_sub hl [0, 1] rfl) hq
theorem dcX0_countFrom_0 : decode cX0_countFrom 0 = .ok (.iload_n 2, 1) := dw_at cX0_countFrom_k0 (p := 0) rfl (by decide +kernel)
theorem dcX0_countFrom_1 : decode cX0_countFrom 1 = .ok (.bipush 18, 2) := dw_at cX0_countFrom_k0 (p := 1) rfl (by decide +kernel)
theorem dcX0_countFrom_3 : decode cX0_countFrom 3 = .ok (.if_icmp .le 5, 3) := dw_at cX0_countFrom_k0 (p := 3) rfl (by decide +kernel)
theorem dcX0_countFrom_6 : decode cX0_countFrom 6 = .ok (.lconst 0, 1) := dw_at cX0_countFrom_k0 (p := 6) rfl (by decide +kernel)
theorem dcX0_countFrom_7 : decode cX0_countFrom 7 = .ok (.lreturn, 1) := dw_at cX0_countFrom_k0 (p := 7) rfl (by decide +kernel)
theorem dcX0_countFrom_8 : decode cX0_countFrom 8 = .ok (.iload_n 1, 1) := dw_at cX0_countFrom_k0 (p := 8) rfl (by decide +kernel)
theorem dcX0_countFrom_9 : decode cX0_countFrom 9 = .ok (.istore 4, 2) := dw_at cX0_countFrom_k0 (p := 9) rfl (by decide +kernel)
theorem dcX0_countFrom_11 : decode cX0_countFrom 11 = .ok (.iload 4, 2) := dw_at cX0_countFrom_k0 (p := 11) rfl (by decide +kernel)
theorem dcX0_countFrom_13 : decode cX0_countFrom 13 = .ok (.aload_n 0, 1) := dw_at cX0_countFrom_k0 (p := 13) rfl (by decide +kernel)
theorem dcX0_countFrom_14 : decode cX0_countFrom 14 = .ok (.getfield 163, 3) := dw_at cX0_countFrom_k0 (p := 14) rfl (by decide +kernel)
theorem dcX0_countFrom_17 : decode cX0_countFrom 17 = .ok (.if_icmp .ge 207, 3) := dw_at cX0_countFrom_k0 (p := 17) rfl (by decide +kernel)
theorem dcX0_countFrom_20 : decode cX0_countFrom 20 = .ok (.aload_n 0, 1) := dw_at cX0_countFrom_k0 (p := 20) rfl (by decide +kernel)
theorem dcX0_countFrom_21 : decode cX0_countFrom 21 = .ok (.getfield 37, 3) := dw_at cX0_countFrom_k0 (p := 21) rfl (by decide +kernel)
theorem dcX0_countFrom_24 : decode cX0_countFrom 24 = .ok (.iload 4, 2) := dw_at cX0_countFrom_k1 (p := 0) rfl (by decide +kernel)
theorem dcX0_countFrom_26 : decode cX0_countFrom 26 = .ok (.iaload, 1) := dw_at cX0_countFrom_k1 (p := 2) rfl (by decide +kernel)
theorem dcX0_countFrom_27 : decode cX0_countFrom 27 = .ok (.ifCond .ne 85, 3) := dw_at cX0_countFrom_k1 (p := 3) rfl (by decide +kernel)
theorem dcX0_countFrom_30 : decode cX0_countFrom 30 = .ok (.lconst 0, 1) := dw_at cX0_countFrom_k1 (p := 6) rfl (by decide +kernel)
theorem dcX0_countFrom_31 : decode cX0_countFrom 31 = .ok (.lstore 5, 2) := dw_at cX0_countFrom_k1 (p := 7) rfl (by decide +kernel)
theorem dcX0_countFrom_33 : decode cX0_countFrom 33 = .ok (.iconst 0, 1) := dw_at cX0_countFrom_k1 (p := 9) rfl (by decide +kernel)
theorem dcX0_countFrom_34 : decode cX0_countFrom 34 = .ok (.istore 7, 2) := dw_at cX0_countFrom_k1 (p := 10) rfl (by decide +kernel)
theorem dcX0_countFrom_36 : decode cX0_countFrom 36 = .ok (.iload 7, 2) := dw_at cX0_countFrom_k1 (p := 12) rfl (by decide +kernel)
theorem dcX0_countFrom_38 : decode cX0_countFrom 38 = .ok (.iload_n 3, 1) := dw_at cX0_countFrom_k1 (p := 14) rfl (by decide +kernel)
theorem dcX0_countFrom_39 : decode cX0_countFrom 39 = .ok (.if_icmp .ge 70, 3) := dw_at cX0_countFrom_k1 (p := 15) rfl (by decide +kernel)
theorem dcX0_countFrom_42 : decode cX0_countFrom 42 = .ok (.iload_n 2, 1) := dw_at cX0_countFrom_k1 (p := 18) rfl (by decide +kernel)
theorem dcX0_countFrom_43 : decode cX0_countFrom 43 = .ok (.ifCond .ne 13, 3) := dw_at cX0_countFrom_k1 (p := 19) rfl (by decide +kernel)
theorem dcX0_countFrom_46 : decode cX0_countFrom 46 = .ok (.aload_n 0, 1) := dw_at cX0_countFrom_k1 (p := 22) rfl (by decide +kernel)
theorem dcX0_countFrom_47 : decode cX0_countFrom 47 = .ok (.getfield 31, 3) := dw_at cX0_countFrom_k1 (p := 23) rfl (by decide +kernel)
theorem dcX0_countFrom_50 : decode cX0_countFrom 50 = .ok (.iload 7, 2) := dw_at cX0_countFrom_k2 (p := 0) rfl (by decide +kernel)
theorem dcX0_countFrom_52 : decode cX0_countFrom 52 = .ok (.iaload, 1) := dw_at cX0_countFrom_k2 (p := 2) rfl (by decide +kernel)
theorem dcX0_countFrom_53 : decode cX0_countFrom 53 = .ok (.goto 4, 3) := dw_at cX0_countFrom_k2 (p := 3) rfl (by decide +kernel)
theorem dcX0_countFrom_56 : decode cX0_countFrom 56 = .ok (.iconst 1, 1) := dw_at cX0_countFrom_k2 (p := 6) rfl (by decide +kernel)
theorem dcX0_countFrom_57 : decode cX0_countFrom 57 = .ok (.istore 8, 2) := dw_at cX0_countFrom_k2 (p := 7) rfl (by decide +kernel)
theorem dcX0_countFrom_59 : decode cX0_countFrom 59 = .ok (.aload_n 0, 1) := dw_at cX0_countFrom_k2 (p := 9) rfl (by decide +kernel)
theorem dcX0_countFrom_60 : decode cX0_countFrom 60 = .ok (.getfield 34, 3) := dw_at cX0_countFrom_k2 (p := 10) rfl (by decide +kernel)
theorem dcX0_countFrom_63 : decode cX0_countFrom 63 = .ok (.aload_n 0, 1) := dw_at cX0_countFrom_k2 (p := 13) rfl (by decide +kernel)
theorem dcX0_countFrom_64 : decode cX0_countFrom 64 = .ok (.getfield 40, 3) := dw_at cX0_countFrom_k2 (p := 14) rfl (by decide +kernel)
theorem dcX0_countFrom_67 : decode cX0_countFrom 67 = .ok (.iload 4, 2) := dw_at cX0_countFrom_k2 (p := 17) rfl (by decide +kernel)
theorem dcX0_countFrom_69 : decode cX0_countFrom 69 = .ok (.iaload, 1) := dw_at cX0_countFrom_k2 (p := 19) rfl (by decide +kernel)
theorem dcX0_countFrom_70 : decode cX0_countFrom 70 = .ok (.iload 7, 2) := dw_at cX0_countFrom_k2 (p := 20) rfl (by decide +kernel)
theorem dcX0_countFrom_72 : decode cX0_countFrom 72 = .ok (.iastore, 1) := dw_at cX0_countFrom_k2 (p := 22) rfl (by decide +kernel)
theorem dcX0_countFrom_73 : decode cX0_countFrom 73 = .ok (.lload 5, 2) := dw_at cX0_countFrom_k2 (p := 23) rfl (by decide +kernel)
theorem dcX0_countFrom_75 : decode cX0_countFrom 75 = .ok (.iload 8, 2) := dw_at cX0_countFrom_k3 (p := 0) rfl (by decide +kernel)
theorem dcX0_countFrom_77 : decode cX0_countFrom 77 = .ok (.ifCond .ne 7, 3) := dw_at cX0_countFrom_k3 (p := 2) rfl (by decide +kernel)
theorem dcX0_countFrom_80 : decode cX0_countFrom 80 = .ok (.lconst 0, 1) := dw_at cX0_countFrom_k3 (p := 5) rfl (by decide +kernel)
theorem dcX0_countFrom_81 : decode cX0_countFrom 81 = .ok (.goto 19, 3) := dw_at cX0_countFrom_k3 (p := 6) rfl (by decide +kernel)
theorem dcX0_countFrom_84 : decode cX0_countFrom 84 = .ok (.iload 8, 2) := dw_at cX0_countFrom_k3 (p := 9) rfl (by decide +kernel)
theorem dcX0_countFrom_86 : decode cX0_countFrom 86 = .ok (.i2l, 1) := dw_at cX0_countFrom_k3 (p := 11) rfl (by decide +kernel)
theorem dcX0_countFrom_87 : decode cX0_countFrom 87 = .ok (.aload_n 0, 1) := dw_at cX0_countFrom_k3 (p := 12) rfl (by decide +kernel)
theorem dcX0_countFrom_88 : decode cX0_countFrom 88 = .ok (.iload 4, 2) := dw_at cX0_countFrom_k3 (p := 13) rfl (by decide +kernel)
theorem dcX0_countFrom_90 : decode cX0_countFrom 90 = .ok (.iconst 1, 1) := dw_at cX0_countFrom_k3 (p := 15) rfl (by decide +kernel)
theorem dcX0_countFrom_91 : decode cX0_countFrom 91 = .ok (.iadd, 1) := dw_at cX0_countFrom_k3 (p := 16) rfl (by decide +kernel)
theorem dcX0_countFrom_92 : decode cX0_countFrom 92 = .ok (.iload_n 2, 1) := dw_at cX0_countFrom_k3 (p := 17) rfl (by decide +kernel)
theorem dcX0_countFrom_93 : decode cX0_countFrom 93 = .ok (.iconst 1, 1) := dw_at cX0_countFrom_k3 (p := 18) rfl (by decide +kernel)
theorem dcX0_countFrom_94 : decode cX0_countFrom 94 = .ok (.iadd, 1) := dw_at cX0_countFrom_k3 (p := 19) rfl (by decide +kernel)
theorem dcX0_countFrom_95 : decode cX0_countFrom 95 = .ok (.iload_n 3, 1) := dw_at cX0_countFrom_k3 (p := 20) rfl (by decide +kernel)
theorem dcX0_countFrom_96 : decode cX0_countFrom 96 = .ok (.invokevirtual 143, 3) := dw_at cX0_countFrom_k3 (p := 21) rfl (by decide +kernel)
theorem dcX0_countFrom_99 : decode cX0_countFrom 99 = .ok (.lmul, 1) := dw_at cX0_countFrom_k4 (p := 0) rfl (by decide +kernel)
theorem dcX0_countFrom_100 : decode cX0_countFrom 100 = .ok (.ladd, 1) := dw_at cX0_countFrom_k4 (p := 1) rfl (by decide +kernel)
theorem dcX0_countFrom_101 : decode cX0_countFrom 101 = .ok (.lstore 5, 2) := dw_at cX0_countFrom_k4 (p := 2) rfl (by decide +kernel)
theorem dcX0_countFrom_103 : decode cX0_countFrom 103 = .ok (.iinc 7 1, 3) := dw_at cX0_countFrom_k4 (p := 4) rfl (by decide +kernel)
theorem dcX0_countFrom_106 : decode cX0_countFrom 106 = .ok (.goto (-70), 3) := dw_at cX0_countFrom_k4 (p := 7) rfl (by decide +kernel)
theorem dcX0_countFrom_109 : decode cX0_countFrom 109 = .ok (.lload 5, 2) := dw_at cX0_countFrom_k4 (p := 10) rfl (by decide +kernel)
theorem dcX0_countFrom_111 : decode cX0_countFrom 111 = .ok (.lreturn, 1) := dw_at cX0_countFrom_k4 (p := 12) rfl (by decide +kernel)
theorem dcX0_countFrom_112 : decode cX0_countFrom 112 = .ok (.aload_n 0, 1) := dw_at cX0_countFrom_k4 (p := 13) rfl (by decide +kernel)
theorem dcX0_countFrom_113 : decode cX0_countFrom 113 = .ok (.getfield 34, 3) := dw_at cX0_countFrom_k4 (p := 14) rfl (by decide +kernel)
theorem dcX0_countFrom_116 : decode cX0_countFrom 116 = .ok (.aload_n 0, 1) := dw_at cX0_countFrom_k4 (p := 17) rfl (by decide +kernel)
theorem dcX0_countFrom_117 : decode cX0_countFrom 117 = .ok (.getfield 43, 3) := dw_at cX0_countFrom_k4 (p := 18) rfl (by decide +kernel)
theorem dcX0_countFrom_120 : decode cX0_countFrom 120 = .ok (.iload 4, 2) := dw_at cX0_countFrom_k4 (p := 21) rfl (by decide +kernel)
theorem dcX0_countFrom_122 : decode cX0_countFrom 122 = .ok (.iaload, 1) := dw_at cX0_countFrom_k4 (p := 23) rfl (by decide +kernel)
theorem dcX0_countFrom_123 : decode cX0_countFrom 123 = .ok (.iaload, 1) := dw_at cX0_countFrom_k5 (p := 0) rfl (by decide +kernel)
theorem dcX0_countFrom_124 : decode cX0_countFrom 124 = .ok (.istore 5, 2) := dw_at cX0_countFrom_k5 (p := 1) rfl (by decide +kernel)
theorem dcX0_countFrom_126 : decode cX0_countFrom 126 = .ok (.aload_n 0, 1) := dw_at cX0_countFrom_k5 (p := 3) rfl (by decide +kernel)
theorem dcX0_countFrom_127 : decode cX0_countFrom 127 = .ok (.getfield 24, 3) := dw_at cX0_countFrom_k5 (p := 4) rfl (by decide +kernel)
theorem dcX0_countFrom_130 : decode cX0_countFrom 130 = .ok (.bipush 24, 2) := dw_at cX0_countFrom_k5 (p := 7) rfl (by decide +kernel)
theorem dcX0_countFrom_132 : decode cX0_countFrom 132 = .ok (.aload_n 0, 1) := dw_at cX0_countFrom_k5 (p := 9) rfl (by decide +kernel)
theorem dcX0_countFrom_133 : decode cX0_countFrom 133 = .ok (.getfield 49, 3) := dw_at cX0_countFrom_k5 (p := 10) rfl (by decide +kernel)
theorem dcX0_countFrom_136 : decode cX0_countFrom 136 = .ok (.iload 4, 2) := dw_at cX0_countFrom_k5 (p := 13) rfl (by decide +kernel)
theorem dcX0_countFrom_138 : decode cX0_countFrom 138 = .ok (.baload, 1) := dw_at cX0_countFrom_k5 (p := 15) rfl (by decide +kernel)
theorem dcX0_countFrom_139 : decode cX0_countFrom 139 = .ok (.ifCond .eq 13, 3) := dw_at cX0_countFrom_k5 (p := 16) rfl (by decide +kernel)
theorem dcX0_countFrom_142 : decode cX0_countFrom 142 = .ok (.aload_n 0, 1) := dw_at cX0_countFrom_k5 (p := 19) rfl (by decide +kernel)
theorem dcX0_countFrom_143 : decode cX0_countFrom 143 = .ok (.getfield 28, 3) := dw_at cX0_countFrom_k5 (p := 20) rfl (by decide +kernel)
theorem dcX0_countFrom_146 : decode cX0_countFrom 146 = .ok (.iload 5, 2) := dw_at cX0_countFrom_k5 (p := 23) rfl (by decide +kernel)
theorem dcX0_countFrom_148 : decode cX0_countFrom 148 = .ok (.baload, 1) := dw_at cX0_countFrom_k6 (p := 0) rfl (by decide +kernel)
theorem dcX0_countFrom_149 : decode cX0_countFrom 149 = .ok (.goto 5, 3) := dw_at cX0_countFrom_k6 (p := 1) rfl (by decide +kernel)
theorem dcX0_countFrom_152 : decode cX0_countFrom 152 = .ok (.iload 5, 2) := dw_at cX0_countFrom_k6 (p := 4) rfl (by decide +kernel)
theorem dcX0_countFrom_154 : decode cX0_countFrom 154 = .ok (.imul, 1) := dw_at cX0_countFrom_k6 (p := 6) rfl (by decide +kernel)
theorem dcX0_countFrom_155 : decode cX0_countFrom 155 = .ok (.aload_n 0, 1) := dw_at cX0_countFrom_k6 (p := 7) rfl (by decide +kernel)
theorem dcX0_countFrom_156 : decode cX0_countFrom 156 = .ok (.getfield 34, 3) := dw_at cX0_countFrom_k6 (p := 8) rfl (by decide +kernel)
theorem dcX0_countFrom_159 : decode cX0_countFrom 159 = .ok (.aload_n 0, 1) := dw_at cX0_countFrom_k6 (p := 11) rfl (by decide +kernel)
theorem dcX0_countFrom_160 : decode cX0_countFrom 160 = .ok (.getfield 46, 3) := dw_at cX0_countFrom_k6 (p := 12) rfl (by decide +kernel)
theorem dcX0_countFrom_163 : decode cX0_countFrom 163 = .ok (.iload 4, 2) := dw_at cX0_countFrom_k6 (p := 15) rfl (by decide +kernel)
theorem dcX0_countFrom_165 : decode cX0_countFrom 165 = .ok (.iaload, 1) := dw_at cX0_countFrom_k6 (p := 17) rfl (by decide +kernel)
theorem dcX0_countFrom_166 : decode cX0_countFrom 166 = .ok (.iaload, 1) := dw_at cX0_countFrom_k6 (p := 18) rfl (by decide +kernel)
theorem dcX0_countFrom_167 : decode cX0_countFrom 167 = .ok (.iadd, 1) := dw_at cX0_countFrom_k6 (p := 19) rfl (by decide +kernel)
theorem dcX0_countFrom_168 : decode cX0_countFrom 168 = .ok (.baload, 1) := dw_at cX0_countFrom_k6 (p := 20) rfl (by decide +kernel)
theorem dcX0_countFrom_169 : decode cX0_countFrom 169 = .ok (.istore 6, 2) := dw_at cX0_countFrom_k6 (p := 21) rfl (by decide +kernel)
theorem dcX0_countFrom_171 : decode cX0_countFrom 171 = .ok (.aload_n 0, 1) := dw_at cX0_countFrom_k6 (p := 23) rfl (by decide +kernel)
theorem dcX0_countFrom_172 : decode cX0_countFrom 172 = .ok (.getfield 37, 3) := dw_at cX0_countFrom_k7 (p := 0) rfl (by decide +kernel)
theorem dcX0_countFrom_175 : decode cX0_countFrom 175 = .ok (.iload 4, 2) := dw_at cX0_countFrom_k7 (p := 3) rfl (by decide +kernel)
theorem dcX0_countFrom_177 : decode cX0_countFrom 177 = .ok (.iaload, 1) := dw_at cX0_countFrom_k7 (p := 5) rfl (by decide +kernel)
theorem dcX0_countFrom_178 : decode cX0_countFrom 178 = .ok (.iconst 1, 1) := dw_at cX0_countFrom_k7 (p := 6) rfl (by decide +kernel)
theorem dcX0_countFrom_179 : decode cX0_countFrom 179 = .ok (.if_icmp .ne 20, 3) := dw_at cX0_countFrom_k7 (p := 7) rfl (by decide +kernel)
theorem dcX0_countFrom_182 : decode cX0_countFrom 182 = .ok (.aload_n 0, 1) := dw_at cX0_countFrom_k7 (p := 10) rfl (by decide +kernel)
theorem dcX0_countFrom_183 : decode cX0_countFrom 183 = .ok (.getfield 34, 3) := dw_at cX0_countFrom_k7 (p := 11) rfl (by decide +kernel)
theorem dcX0_countFrom_186 : decode cX0_countFrom 186 = .ok (.aload_n 0, 1) := dw_at cX0_countFrom_k7 (p := 14) rfl (by decide +kernel)
theorem dcX0_countFrom_187 : decode cX0_countFrom 187 = .ok (.getfield 40, 3) := dw_at cX0_countFrom_k7 (p := 15) rfl (by decide +kernel)
theorem dcX0_countFrom_190 : decode cX0_countFrom 190 = .ok (.iload 4, 2) := dw_at cX0_countFrom_k7 (p := 18) rfl (by decide +kernel)
theorem dcX0_countFrom_192 : decode cX0_countFrom 192 = .ok (.iaload, 1) := dw_at cX0_countFrom_k7 (p := 20) rfl (by decide +kernel)
theorem dcX0_countFrom_193 : decode cX0_countFrom 193 = .ok (.iload 6, 2) := dw_at cX0_countFrom_k7 (p := 21) rfl (by decide +kernel)
theorem dcX0_countFrom_195 : decode cX0_countFrom 195 = .ok (.iastore, 1) := dw_at cX0_countFrom_k7 (p := 23) rfl (by decide +kernel)
theorem dcX0_countFrom_196 : decode cX0_countFrom 196 = .ok (.goto 22, 3) := dw_at cX0_countFrom_k8 (p := 0) rfl (by decide +kernel)
theorem dcX0_countFrom_199 : decode cX0_countFrom 199 = .ok (.aload_n 0, 1) := dw_at cX0_countFrom_k8 (p := 3) rfl (by decide +kernel)
theorem dcX0_countFrom_200 : decode cX0_countFrom 200 = .ok (.getfield 34, 3) := dw_at cX0_countFrom_k8 (p := 4) rfl (by decide +kernel)
theorem dcX0_countFrom_203 : decode cX0_countFrom 203 = .ok (.aload_n 0, 1) := dw_at cX0_countFrom_k8 (p := 7) rfl (by decide +kernel)
theorem dcX0_countFrom_204 : decode cX0_countFrom 204 = .ok (.getfield 40, 3) := dw_at cX0_countFrom_k8 (p := 8) rfl (by decide +kernel)
theorem dcX0_countFrom_207 : decode cX0_countFrom 207 = .ok (.iload 4, 2) := dw_at cX0_countFrom_k8 (p := 11) rfl (by decide +kernel)
theorem dcX0_countFrom_209 : decode cX0_countFrom 209 = .ok (.iaload, 1) := dw_at cX0_countFrom_k8 (p := 13) rfl (by decide +kernel)
theorem dcX0_countFrom_210 : decode cX0_countFrom 210 = .ok (.iaload, 1) := dw_at cX0_countFrom_k8 (p := 14) rfl (by decide +kernel)
theorem dcX0_countFrom_211 : decode cX0_countFrom 211 = .ok (.iload 6, 2) := dw_at cX0_countFrom_k8 (p := 15) rfl (by decide +kernel)
theorem dcX0_countFrom_213 : decode cX0_countFrom 213 = .ok (.if_icmp .eq 5, 3) := dw_at cX0_countFrom_k8 (p := 17) rfl (by decide +kernel)
theorem dcX0_countFrom_216 : decode cX0_countFrom 216 = .ok (.lconst 0, 1) := dw_at cX0_countFrom_k8 (p := 20) rfl (by decide +kernel)
theorem dcX0_countFrom_217 : decode cX0_countFrom 217 = .ok (.lreturn, 1) := dw_at cX0_countFrom_k8 (p := 21) rfl (by decide +kernel)
theorem dcX0_countFrom_218 : decode cX0_countFrom 218 = .ok (.iinc 4 1, 3) := dw_at cX0_countFrom_k8 (p := 22) rfl (by decide +kernel)
theorem dcX0_countFrom_221 : decode cX0_countFrom 221 = .ok (.goto (-210), 3) := dw_at cX0_countFrom_k8 (p := 25) rfl (by decide +kernel)
theorem dcX0_countFrom_224 : decode cX0_countFrom 224 = .ok (.lconst 1, 1) := dw_at cX0_countFrom_k8 (p := 28) rfl (by decide +kernel)
theorem dcX0_countFrom_225 : decode cX0_countFrom 225 = .ok (.lreturn, 1) := dw_at cX0_countFrom_k8 (p := 29) rfl (by decide +kernel)
def cm_X0_countFrom_0 (vl : Nat → Nat) (K : Nat) (self : Nat → Int32 → Int32 → Int32 → ow_MS → Option (Int64 × ow_MS)) (go : Nat → Int32 → Int32 → Int32 → Int32 → Int32 → Int32 → Int32 → Int32 → Int64 → Nat → Int32 → Int32 → Int64 → Int64 → ow_MS → Option (Int64 × ow_MS)) (x1 : Int32) (x2 : Int32) (x3 : Int32) (x4 : Int32) (x5 : Int32) (x6 : Int32) (x7 : Int32) (x8 : Int32) (w5 : Int64) (r0 : Nat) (t0 : Int32) (t1 : Int32) (y0 : Int64) (y1 : Int64) (z : ow_MS) : Option (Int64 × ow_MS) :=
 (if x2 ≤ 18 then go 1 x1 x2 x3 x1 0 0 0 0 0 r0 0 0 0 0 z
 else some (0, z))
def cm_X0_countFrom_1 (vl : Nat → Nat) (K : Nat) (self : Nat → Int32 → Int32 → Int32 → ow_MS → Option (Int64 × ow_MS)) (go : Nat → Int32 → Int32 → Int32 → Int32 → Int32 → Int32 → Int32 → Int32 → Int64 → Nat → Int32 → Int32 → Int64 → Int64 → ow_MS → Option (Int64 × ow_MS)) (x1 : Int32) (x2 : Int32) (x3 : Int32) (x4 : Int32) (x5 : Int32) (x6 : Int32) (x7 : Int32) (x8 : Int32) (w5 : Int64) (r0 : Nat) (t0 : Int32) (t1 : Int32) (y0 : Int64) (y1 : Int64) (z : ow_MS) : Option (Int64 × ow_MS) :=
 rdF z (r0 + 10) fun v1 => (if v1 ≤ x4 then some (1, z)
 else crI (cX vl) z (r0 + 11) x4 fun v2 => (if v2 = 0 then go 2 x1 x2 x3 x4 0 0 0 0 0 r0 0 0 0 0 z
 else crI (cX vl) z (r0 + 13) x4 fun v3 => crI (cX vl) z (r0 + 9) v3 fun v4 => crI (cX vl) z (r0 + 15) x4 fun v5 => (if v5 = 0 then go 5 x1 x2 x3 x4 v4 0 0 0 0 r0 v4 24 0 0 z
 else crI (cX vl) z (r0 + 7) v4 fun v6 => go 5 x1 x2 x3 x4 v4 0 0 0 0 r0 v6 24 0 0 z)))
def cm_X0_countFrom_2 (vl : Nat → Nat) (K : Nat) (self : Nat → Int32 → Int32 → Int32 → ow_MS → Option (Int64 × ow_MS)) (go : Nat → Int32 → Int32 → Int32 → Int32 → Int32 → Int32 → Int32 → Int32 → Int64 → Nat → Int32 → Int32 → Int64 → Int64 → ow_MS → Option (Int64 × ow_MS)) (x1 : Int32) (x2 : Int32) (x3 : Int32) (x4 : Int32) (x5 : Int32) (x6 : Int32) (x7 : Int32) (x8 : Int32) (w5 : Int64) (r0 : Nat) (t0 : Int32) (t1 : Int32) (y0 : Int64) (y1 : Int64) (z : ow_MS) : Option (Int64 × ow_MS) :=
 (if x3 ≤ x7 then some (w5, z)
 else (if x2 = 0 then crI (cX vl) z (r0 + 8) x7 fun v7 => go 3 x1 x2 x3 x4 0 0 x7 0 w5 r0 v7 0 0 0 z
 else go 3 x1 x2 x3 x4 0 0 x7 0 w5 r0 1 0 0 0 z))
def cm_X0_countFrom_3 (vl : Nat → Nat) (K : Nat) (self : Nat → Int32 → Int32 → Int32 → ow_MS → Option (Int64 × ow_MS)) (go : Nat → Int32 → Int32 → Int32 → Int32 → Int32 → Int32 → Int32 → Int32 → Int64 → Nat → Int32 → Int32 → Int64 → Int64 → ow_MS → Option (Int64 × ow_MS)) (x1 : Int32) (x2 : Int32) (x3 : Int32) (x4 : Int32) (x5 : Int32) (x6 : Int32) (x7 : Int32) (x8 : Int32) (w5 : Int64) (r0 : Nat) (t0 : Int32) (t1 : Int32) (y0 : Int64) (y1 : Int64) (z : ow_MS) : Option (Int64 × ow_MS) :=
 crI (cX vl) z (r0 + 12) x4 fun v8 => ctI (cX vl) z (r0 + 9) v8 x7 fun z9 => (if t0 = 0 then go 4 x1 x2 x3 x4 0 0 x7 t0 w5 r0 0 0 0 w5 z9
 else cs1 (self r0 (x4 + 1) (x2 + 1) x3 z9) fun v11 z10 => go 4 x1 x2 x3 x4 0 0 x7 t0 w5 r0 0 0 (t0.toInt64 * v11) w5 z10)
def cm_X0_countFrom_4 (vl : Nat → Nat) (K : Nat) (self : Nat → Int32 → Int32 → Int32 → ow_MS → Option (Int64 × ow_MS)) (go : Nat → Int32 → Int32 → Int32 → Int32 → Int32 → Int32 → Int32 → Int32 → Int64 → Nat → Int32 → Int32 → Int64 → Int64 → ow_MS → Option (Int64 × ow_MS)) (x1 : Int32) (x2 : Int32) (x3 : Int32) (x4 : Int32) (x5 : Int32) (x6 : Int32) (x7 : Int32) (x8 : Int32) (w5 : Int64) (r0 : Nat) (t0 : Int32) (t1 : Int32) (y0 : Int64) (y1 : Int64) (z : ow_MS) : Option (Int64 × ow_MS) :=
 go 2 x1 x2 x3 x4 0 0 (x7 + 1) 0 (y1 + y0) r0 0 0 0 0 z
def cm_X0_countFrom_5 (vl : Nat → Nat) (K : Nat) (self : Nat → Int32 → Int32 → Int32 → ow_MS → Option (Int64 × ow_MS)) (go : Nat → Int32 → Int32 → Int32 → Int32 → Int32 → Int32 → Int32 → Int32 → Int64 → Nat → Int32 → Int32 → Int64 → Int64 → ow_MS → Option (Int64 × ow_MS)) (x1 : Int32) (x2 : Int32) (x3 : Int32) (x4 : Int32) (x5 : Int32) (x6 : Int32) (x7 : Int32) (x8 : Int32) (w5 : Int64) (r0 : Nat) (t0 : Int32) (t1 : Int32) (y0 : Int64) (y1 : Int64) (z : ow_MS) : Option (Int64 × ow_MS) :=
 crI (cX vl) z (r0 + 14) x4 fun v12 => crI (cX vl) z (r0 + 9) v12 fun v13 => crI (cX vl) z (r0 + 6) ((t1 * t0) + v13) fun v14 => crI (cX vl) z (r0 + 11) x4 fun v15 => (if v15 = 1 then crI (cX vl) z (r0 + 12) x4 fun v18 => ctI (cX vl) z (r0 + 9) v18 v14 fun z19 => go 6 x1 x2 x3 x4 x5 v14 0 0 0 r0 0 0 0 0 z19
 else crI (cX vl) z (r0 + 12) x4 fun v16 => crI (cX vl) z (r0 + 9) v16 fun v17 => (if v17 = v14 then go 6 x1 x2 x3 x4 x5 v14 0 0 0 r0 0 0 0 0 z
 else some (0, z)))
def cm_X0_countFrom_6 (vl : Nat → Nat) (K : Nat) (self : Nat → Int32 → Int32 → Int32 → ow_MS → Option (Int64 × ow_MS)) (go : Nat → Int32 → Int32 → Int32 → Int32 → Int32 → Int32 → Int32 → Int32 → Int64 → Nat → Int32 → Int32 → Int64 → Int64 → ow_MS → Option (Int64 × ow_MS)) (x1 : Int32) (x2 : Int32) (x3 : Int32) (x4 : Int32) (x5 : Int32) (x6 : Int32) (x7 : Int32) (x8 : Int32) (w5 : Int64) (r0 : Nat) (t0 : Int32) (t1 : Int32) (y0 : Int64) (y1 : Int64) (z : ow_MS) : Option (Int64 × ow_MS) :=
 go 1 x1 x2 x3 (x4 + 1) 0 0 0 0 0 r0 0 0 0 0 z
def cb_X0_countFrom (vl : Nat → Nat) (K : Nat) (self : Nat → Int32 → Int32 → Int32 → ow_MS → Option (Int64 × ow_MS)) (go : Nat → Int32 → Int32 → Int32 → Int32 → Int32 → Int32 → Int32 → Int32 → Int64 → Nat → Int32 → Int32 → Int64 → Int64 → ow_MS → Option (Int64 × ow_MS)) (L : Nat) (x1 : Int32) (x2 : Int32) (x3 : Int32) (x4 : Int32) (x5 : Int32) (x6 : Int32) (x7 : Int32) (x8 : Int32) (w5 : Int64) (r0 : Nat) (t0 : Int32) (t1 : Int32) (y0 : Int64) (y1 : Int64) (z : ow_MS) : Option (Int64 × ow_MS) := match L with
  | 0 => cm_X0_countFrom_0 vl K self go x1 x2 x3 x4 x5 x6 x7 x8 w5 r0 t0 t1 y0 y1 z
  | 1 => cm_X0_countFrom_1 vl K self go x1 x2 x3 x4 x5 x6 x7 x8 w5 r0 t0 t1 y0 y1 z
  | 2 => cm_X0_countFrom_2 vl K self go x1 x2 x3 x4 x5 x6 x7 x8 w5 r0 t0 t1 y0 y1 z
  | 3 => cm_X0_countFrom_3 vl K self go x1 x2 x3 x4 x5 x6 x7 x8 w5 r0 t0 t1 y0 y1 z
  | 4 => cm_X0_countFrom_4 vl K self go x1 x2 x3 x4 x5 x6 x7 x8 w5 r0 t0 t1 y0 y1 z
  | 5 => cm_X0_countFrom_5 vl K self go x1 x2 x3 x4 x5 x6 x7 x8 w5 r0 t0 t1 y0 y1 z
  | 6 => cm_X0_countFrom_6 vl K self go x1 x2 x3 x4 x5 x6 x7 x8 w5 r0 t0 t1 y0 y1 z
  | _ => none
def c_X0_countFrom (vl : Nat → Nat) (K : Nat) (self : Nat → Int32 → Int32 → Int32 → ow_MS → Option (Int64 × ow_MS)) : Nat → Nat → Int32 → Int32 → Int32 → Int32 → Int32 → Int32 → Int32 → Int32 → Int64 → Nat → Int32 → Int32 → Int64 → Int64 → ow_MS → Option (Int64 × ow_MS)
  | 0 => fun _ _ _ _ _ _ _ _ _ _ _ _ _ _ _ _ => none
  | k + 1 => cb_X0_countFrom vl K self (c_X0_countFrom vl K self k)
def cd0_X0_countFrom (vl : Nat → Nat) (K : Nat) : Nat → Nat → Int32 → Int32 → Int32 → ow_MS → Option (Int64 × ow_MS)
  | 0 => fun _ _ _ _ _ => none
  | d + 1 => fun r0 x1 x2 x3 z => c_X0_countFrom vl K (cd0_X0_countFrom vl K d) K 0 x1 x2 x3 0 0 0 0 0 0 r0 0 0 0 0 z
def ce_X0_countFrom (vl : Nat → Nat) (K : Nat) (r0 : Nat) (x1 : Int32) (x2 : Int32) (x3 : Int32) (z : ow_MS) : Option (Int64 × ow_MS) := cd0_X0_countFrom vl K 21 r0 x1 x2 x3 z
abbrev wc_X0_countFrom : List Cond := .code yX0_countFrom cX0_countFrom 9 (some .long) :: wC
theorem cdd_X0_countFrom : yX0_countFrom.cls = RX0 ∧ yX0_countFrom.cls ≠ "java/lang/invoke/MethodHandle" ∧ yX0_countFrom.cls ≠ "java/lang/invoke/VarHandle" ∧ (parseMethodDescriptor yX0_countFrom.desc).map (fun d => d.parameters.length) = some 3 := by decide +kernel
set_option maxHeartbeats 4000000 in
set_option maxRecDepth 100000 in
theorem kcd_X0_countFrom (l : Launch) (D : va_G) (q : Nat → ClassId) (vl u : Nat → Nat) (hU0 : tw_inj (cX vl) u) (K : Nat) (d : Nat) : ∀ (r0 : Nat) (x1 : Int32) (x2 : Int32) (x3 : Int32) (hr0 : cw_X0 r0) (z z1 : ow_MS) (r : Int64) (_ : cd0_X0_countFrom vl K d r0 x1 x2 x3 z = some (r, z1)), Met l yX0_countFrom wc_X0_countFrom ({ frames := 0 + d, cells := 0, slots := 0, locals := 0 + d * 28 } : Room) (va_Pc [.ref (u r0), .int x1, .int x2, .int x3] (cw_pre D q vl u z)) (va_Ql (fun x (_ : Unit) => x = r) (fun _ t => va_P D vwCl (uw (cX vl) q u z1) t.heap) (tw_A (cX vl) u)) 0 0 (tw_A (cX vl) u) := by
  induction d with
  | zero =>
    intro r0 x1 x2 x3 hr0 z z1 r hq
    exact cw_no hq
  | succ d ihd =>
    intro r0 x1 x2 x3 hr0 z z1 r hq
    have hq : c_X0_countFrom vl K (cd0_X0_countFrom vl K d) K 0 x1 x2 x3 0 0 0 0 0 0 r0 0 0 0 0 z = some (r, z1) := hq
    refine Met.ofW (cc := cX0_countFrom) (maxL := 9) (ret := (some .long)) (by decide) rfl ?_
    intro p e s m args below meth c s₁ B hml hv
    obtain ⟨rfl, hP, hK⟩ := hv
    have hx := B.exec
    have hb := B.bytes
    have hr := B.returns
    have hts := atoms_spec (ws := wc_X0_countFrom) B.pre
    have hT : ∀ w ∈ wC, w.before ([.ref (u r0), .int x1, .int x2, .int x3] : List Value).toArray s = true := fun w h => hts w (List.mem_cons_of_mem _ h)
    have hown : s.vm.findClass RX0 = some m.cls := findClass_of_methodNamed B.named
    have hlocks := B.notSynchronized
    have hU : uw_inj (cX vl) u (tw_A (cX vl) u) := ⟨hU0, fun h hh => ⟨h, hh, rfl⟩⟩
    have hM : uw_M D vwCl (cX vl) q (tw_A (cX vl) u) s.heap u z s.heap [] := ⟨hP, va_S.rf⟩
    have hl := lv_entry ([.ref (u r0), .int x1, .int x2, .int x3]) (n := 9) (Nat.le_of_ble_eq_true rfl)
    rw [lg_entry_eq]
    generalize (lg_sl ([.ref (u r0), .int x1, .int x2, .int x3]) ++ List.replicate (9 - (lg_sl ([.ref (u r0), .int x1, .int x2, .int x3])).length) Slot.unset).toArray = ls at hl ⊢
    have hl : lv_has ls 9 [(0, .ref (u r0)), (1, .int x1), (2, .int x2), (3, .int x3)] := hl
    refine ow_named (fun QQ hQQ => ?_)
    generalize ([.ref (u r0), .int x1, .int x2, .int x3] : List Value).toArray = args at hts hT hQQ ⊢
    have key : ∀ k : Nat, (∀ (x1 : Int32) (x2 : Int32) (x3 : Int32) (x4 : Int32) (x5 : Int32) (x6 : Int32) (x7 : Int32) (x8 : Int32) (w5 : Int64) (r0 : Nat) (t0 : Int32) (t1 : Int32) (y0 : Int64) (y1 : Int64) (z : ow_MS) (H : Heap) (locs : List Loc) (ls : Array Slot), cw_X0 r0 → uw_M D vwCl (cX vl) q (tw_A (cX vl) u) s.heap u z H locs → lv_has ls 9 [(0, .ref (u r0)), (1, .int x1), (2, .int x2), (3, .int x3)] → c_X0_countFrom vl K (cd0_X0_countFrom vl K d) k 0 x1 x2 x3 x4 x5 x6 x7 x8 w5 r0 t0 t1 y0 y1 z = some (r, z1) → W p l e ({ frames := 0 + (d + 1), cells := 0, slots := 0, locals := 0 + (d + 1) * 28 } : Room) s m args below meth c H locs 0 0 QQ (F0 m 0 ls [])) ∧ (∀ (x1 : Int32) (x2 : Int32) (x3 : Int32) (x4 : Int32) (x5 : Int32) (x6 : Int32) (x7 : Int32) (x8 : Int32) (w5 : Int64) (r0 : Nat) (t0 : Int32) (t1 : Int32) (y0 : Int64) (y1 : Int64) (z : ow_MS) (H : Heap) (locs : List Loc) (ls : Array Slot), cw_X0 r0 → uw_M D vwCl (cX vl) q (tw_A (cX vl) u) s.heap u z H locs → lv_has ls 9 [(0, .ref (u r0)), (1, .int x1), (2, .int x2), (3, .int x3), (4, .int x4)] → c_X0_countFrom vl K (cd0_X0_countFrom vl K d) k 1 x1 x2 x3 x4 x5 x6 x7 x8 w5 r0 t0 t1 y0 y1 z = some (r, z1) → W p l e ({ frames := 0 + (d + 1), cells := 0, slots := 0, locals := 0 + (d + 1) * 28 } : Room) s m args below meth c H locs 0 0 QQ (F0 m 11 ls [])) ∧ (∀ (x1 : Int32) (x2 : Int32) (x3 : Int32) (x4 : Int32) (x5 : Int32) (x6 : Int32) (x7 : Int32) (x8 : Int32) (w5 : Int64) (r0 : Nat) (t0 : Int32) (t1 : Int32) (y0 : Int64) (y1 : Int64) (z : ow_MS) (H : Heap) (locs : List Loc) (ls : Array Slot), cw_X0 r0 → uw_M D vwCl (cX vl) q (tw_A (cX vl) u) s.heap u z H locs → lv_has ls 9 [(0, .ref (u r0)), (1, .int x1), (2, .int x2), (3, .int x3), (4, .int x4), (5, .long w5), (7, .int x7)] → c_X0_countFrom vl K (cd0_X0_countFrom vl K d) k 2 x1 x2 x3 x4 x5 x6 x7 x8 w5 r0 t0 t1 y0 y1 z = some (r, z1) → W p l e ({ frames := 0 + (d + 1), cells := 0, slots := 0, locals := 0 + (d + 1) * 28 } : Room) s m args below meth c H locs 0 0 QQ (F0 m 36 ls [])) ∧ (∀ (x1 : Int32) (x2 : Int32) (x3 : Int32) (x4 : Int32) (x5 : Int32) (x6 : Int32) (x7 : Int32) (x8 : Int32) (w5 : Int64) (r0 : Nat) (t0 : Int32) (t1 : Int32) (y0 : Int64) (y1 : Int64) (z : ow_MS) (H : Heap) (locs : List Loc) (ls : Array Slot), cw_X0 r0 → uw_M D vwCl (cX vl) q (tw_A (cX vl) u) s.heap u z H locs → lv_has ls 9 [(0, .ref (u r0)), (1, .int x1), (2, .int x2), (3, .int x3), (4, .int x4), (5, .long w5), (7, .int x7)] → c_X0_countFrom vl K (cd0_X0_countFrom vl K d) k 3 x1 x2 x3 x4 x5 x6 x7 x8 w5 r0 t0 t1 y0 y1 z = some (r, z1) → W p l e ({ frames := 0 + (d + 1), cells := 0, slots := 0, locals := 0 + (d + 1) * 28 } : Room) s m args below meth c H locs 0 0 QQ (F0 m 57 ls [.int t0])) ∧ (∀ (x1 : Int32) (x2 : Int32) (x3 : Int32) (x4 : Int32) (x5 : Int32) (x6 : Int32) (x7 : Int32) (x8 : Int32) (w5 : Int64) (r0 : Nat) (t0 : Int32) (t1 : Int32) (y0 : Int64) (y1 : Int64) (z : ow_MS) (H : Heap) (locs : List Loc) (ls : Array Slot), cw_X0 r0 → uw_M D vwCl (cX vl) q (tw_A (cX vl) u) s.heap u z H locs → lv_has ls 9 [(0, .ref (u r0)), (1, .int x1), (2, .int x2), (3, .int x3), (4, .int x4), (5, .long w5), (7, .int x7), (8, .int x8)] → c_X0_countFrom vl K (cd0_X0_countFrom vl K d) k 4 x1 x2 x3 x4 x5 x6 x7 x8 w5 r0 t0 t1 y0 y1 z = some (r, z1) → W p l e ({ frames := 0 + (d + 1), cells := 0, slots := 0, locals := 0 + (d + 1) * 28 } : Room) s m args below meth c H locs 0 0 QQ (F0 m 100 ls [.long y0, .long y1])) ∧ (∀ (x1 : Int32) (x2 : Int32) (x3 : Int32) (x4 : Int32) (x5 : Int32) (x6 : Int32) (x7 : Int32) (x8 : Int32) (w5 : Int64) (r0 : Nat) (t0 : Int32) (t1 : Int32) (y0 : Int64) (y1 : Int64) (z : ow_MS) (H : Heap) (locs : List Loc) (ls : Array Slot), cw_X0 r0 → uw_M D vwCl (cX vl) q (tw_A (cX vl) u) s.heap u z H locs → lv_has ls 9 [(0, .ref (u r0)), (1, .int x1), (2, .int x2), (3, .int x3), (4, .int x4), (5, .int x5)] → c_X0_countFrom vl K (cd0_X0_countFrom vl K d) k 5 x1 x2 x3 x4 x5 x6 x7 x8 w5 r0 t0 t1 y0 y1 z = some (r, z1) → W p l e ({ frames := 0 + (d + 1), cells := 0, slots := 0, locals := 0 + (d + 1) * 28 } : Room) s m args below meth c H locs 0 0 QQ (F0 m 154 ls [.int t0, .int t1, .ref (u (r0 + 6))])) ∧ (∀ (x1 : Int32) (x2 : Int32) (x3 : Int32) (x4 : Int32) (x5 : Int32) (x6 : Int32) (x7 : Int32) (x8 : Int32) (w5 : Int64) (r0 : Nat) (t0 : Int32) (t1 : Int32) (y0 : Int64) (y1 : Int64) (z : ow_MS) (H : Heap) (locs : List Loc) (ls : Array Slot), cw_X0 r0 → uw_M D vwCl (cX vl) q (tw_A (cX vl) u) s.heap u z H locs → lv_has ls 9 [(0, .ref (u r0)), (1, .int x1), (2, .int x2), (3, .int x3), (4, .int x4), (5, .int x5), (6, .int x6)] → c_X0_countFrom vl K (cd0_X0_countFrom vl K d) k 6 x1 x2 x3 x4 x5 x6 x7 x8 w5 r0 t0 t1 y0 y1 z = some (r, z1) → W p l e ({ frames := 0 + (d + 1), cells := 0, slots := 0, locals := 0 + (d + 1) * 28 } : Room) s m args below meth c H locs 0 0 QQ (F0 m 218 ls [])) := by
      intro k
      induction k with
      | zero => exact ⟨fun _ _ _ _ _ _ _ _ _ _ _ _ _ _ _ _ _ _ _ _ _ hq => cw_no hq, fun _ _ _ _ _ _ _ _ _ _ _ _ _ _ _ _ _ _ _ _ _ hq => cw_no hq, fun _ _ _ _ _ _ _ _ _ _ _ _ _ _ _ _ _ _ _ _ _ hq => cw_no hq, fun _ _ _ _ _ _ _ _ _ _ _ _ _ _ _ _ _ _ _ _ _ hq => cw_no hq, fun _ _ _ _ _ _ _ _ _ _ _ _ _ _ _ _ _ _ _ _ _ hq => cw_no hq, fun _ _ _ _ _ _ _ _ _ _ _ _ _ _ _ _ _ _ _ _ _ hq => cw_no hq, fun _ _ _ _ _ _ _ _ _ _ _ _ _ _ _ _ _ _ _ _ _ hq => cw_no hq⟩
      | succ k ih =>
        obtain ⟨ih_0, ih_1, ih_2, ih_3, ih_4, ih_5, ih_6⟩ := ih
        refine ⟨?_, ?_, ?_, ?_, ?_, ?_, ?_⟩
        · intro x1 x2 x3 x4 x5 x6 x7 x8 w5 r0 t0 t1 y0 y1 z H locs ls hr0 hM hl hq
          have hq : cm_X0_countFrom_0 vl K (cd0_X0_countFrom vl K d) (c_X0_countFrom vl K (cd0_X0_countFrom vl K d) k) x1 x2 x3 x4 x5 x6 x7 x8 w5 r0 t0 t1 y0 y1 z = some (r, z1) := hq
          unfold cm_X0_countFrom_0 at hq
          refine lv_iload_n hx hb dcX0_countFrom_0 rfl (lv_at hl 2 rfl) ?_
          refine lv_bipush (v := 18) hx hb dcX0_countFrom_1 (by decide) ?_
          refine lv_icmp_le (tgt := 8) hx hb dcX0_countFrom_3 (by decide) (fun hc => ?_) (fun hc => ?_)
          · have hq := tw_it hq hc
            refine lv_iload_n hx hb dcX0_countFrom_8 rfl (lv_at hl 1 rfl) ?_
            refine lv_istore (lv' := [(4, .int x1), (0, .ref (u r0)), (1, .int x1), (2, .int x2), (3, .int x3)]) hx hb dcX0_countFrom_9 hl (by decide) rfl (fun ls hl => ?_)
            exact ih_1 x1 x2 x3 x1 0 0 0 0 0 r0 0 0 0 0 z H locs ls hr0 hM (lv_sub hl [1, 2, 3, 4, 0] rfl) hq
          · have hq := tw_if hq hc
            refine lv_lconst (v := 0) hx hb dcX0_countFrom_6 rfl ?_
            exact cw_lret hx hb hr hlocks hM hq hQQ dcX0_countFrom_7
        · intro x1 x2 x3 x4 x5 x6 x7 x8 w5 r0 t0 t1 y0 y1 z H locs ls hr0 hM hl hq
          have hq : cm_X0_countFrom_1 vl K (cd0_X0_countFrom vl K d) (c_X0_countFrom vl K (cd0_X0_countFrom vl K d) k) x1 x2 x3 x4 x5 x6 x7 x8 w5 r0 t0 t1 y0 y1 z = some (r, z1) := hq
          unfold cm_X0_countFrom_1 at hq
          refine lv_iload hx hb dcX0_countFrom_11 (lv_at hl 4 rfl) ?_
          refine lv_aload_n hx hb dcX0_countFrom_13 rfl (lv_at hl 0 rfl) ?_
          refine vgX0_163 hx hb hT hown hK hM hr0 hq dcX0_countFrom_14 (fun v1 hq => ?_)
          refine lv_icmp_ge (tgt := 224) hx hb dcX0_countFrom_17 (by decide) (fun hc => ?_) (fun hc => ?_)
          · have hq := tw_it hq hc
            refine lv_lconst (v := 1) hx hb dcX0_countFrom_224 rfl ?_
            exact cw_lret hx hb hr hlocks hM hq hQQ dcX0_countFrom_225
          · have hq := tw_if hq hc
            refine lv_aload_n hx hb dcX0_countFrom_20 rfl (lv_at hl 0 rfl) ?_
            refine vgX0_37 hx hb hT hown hK hM hr0 dcX0_countFrom_21 ?_
            refine lv_iload hx hb dcX0_countFrom_24 (lv_at hl 4 rfl) ?_
            refine uw_iald cX_ok hx hb hK hM (cr_X0_10 hr0) hq dcX0_countFrom_26 (fun v2 hq => ?_)
            refine lv_if_ne (tgt := 112) hx hb dcX0_countFrom_27 (by decide) (fun hc => ?_) (fun hc => ?_)
            · have hq := tw_if hq hc
              refine lv_aload_n hx hb dcX0_countFrom_112 rfl (lv_at hl 0 rfl) ?_
              refine vgX0_34 hx hb hT hown hK hM hr0 dcX0_countFrom_113 ?_
              refine lv_aload_n hx hb dcX0_countFrom_116 rfl (lv_at hl 0 rfl) ?_
              refine vgX0_43 hx hb hT hown hK hM hr0 dcX0_countFrom_117 ?_
              refine lv_iload hx hb dcX0_countFrom_120 (lv_at hl 4 rfl) ?_
              refine uw_iald cX_ok hx hb hK hM (cr_X0_12 hr0) hq dcX0_countFrom_122 (fun v3 hq => ?_)
              refine uw_iald cX_ok hx hb hK hM (cr_X0_8 hr0) hq dcX0_countFrom_123 (fun v4 hq => ?_)
              refine lv_istore (lv' := [(5, .int v4), (0, .ref (u r0)), (1, .int x1), (2, .int x2), (3, .int x3), (4, .int x4)]) hx hb dcX0_countFrom_124 hl (by decide) rfl (fun ls hl => ?_)
              refine lv_aload_n hx hb dcX0_countFrom_126 rfl (lv_at hl 1 rfl) ?_
              refine vgX0_24 hx hb hT hown hK hM hr0 dcX0_countFrom_127 ?_
              refine lv_bipush (v := 24) hx hb dcX0_countFrom_130 (by decide) ?_
              refine lv_aload_n hx hb dcX0_countFrom_132 rfl (lv_at hl 1 rfl) ?_
              refine vgX0_49 hx hb hT hown hK hM hr0 dcX0_countFrom_133 ?_
              refine lv_iload hx hb dcX0_countFrom_136 (lv_at hl 5 rfl) ?_
              refine uw_zald cX_ok hx hb hK hM (cr_X0_14 hr0) hq dcX0_countFrom_138 (fun v5 hq => ?_)
              refine lv_if_eq (tgt := 152) hx hb dcX0_countFrom_139 (by decide) (fun hc => ?_) (fun hc => ?_)
              · have hq := tw_it hq hc
                refine lv_iload hx hb dcX0_countFrom_152 (lv_at hl 0 rfl) ?_
                exact ih_5 x1 x2 x3 x4 v4 0 0 0 0 r0 v4 24 0 0 z H locs ls hr0 hM (lv_sub hl [1, 2, 3, 4, 5, 0] rfl) hq
              · have hq := tw_if hq hc
                refine lv_aload_n hx hb dcX0_countFrom_142 rfl (lv_at hl 1 rfl) ?_
                refine vgX0_28 hx hb hT hown hK hM hr0 dcX0_countFrom_143 ?_
                refine lv_iload hx hb dcX0_countFrom_146 (lv_at hl 0 rfl) ?_
                refine uw_bald cX_ok hx hb hK hM (cr_X0_6 hr0) hq dcX0_countFrom_148 (fun v6 hq => ?_)
                refine lv_goto (tgt := 154) hx hb dcX0_countFrom_149 (by decide) ?_
                exact ih_5 x1 x2 x3 x4 v4 0 0 0 0 r0 v6 24 0 0 z H locs ls hr0 hM (lv_sub hl [1, 2, 3, 4, 5, 0] rfl) hq
            · have hq := tw_it hq hc
              refine lv_lconst (v := 0) hx hb dcX0_countFrom_30 rfl ?_
              refine lv_lstore (lv' := [(5, .long 0), (0, .ref (u r0)), (1, .int x1), (2, .int x2), (3, .int x3), (4, .int x4)]) hx hb dcX0_countFrom_31 hl (by decide) rfl (fun ls hl => ?_)
              refine lv_iconst (v := 0) hx hb dcX0_countFrom_33 (by decide) ?_
              refine lv_istore (lv' := [(7, .int 0), (5, .long 0), (0, .ref (u r0)), (1, .int x1), (2, .int x2), (3, .int x3), (4, .int x4)]) hx hb dcX0_countFrom_34 hl (by decide) rfl (fun ls hl => ?_)
              exact ih_2 x1 x2 x3 x4 0 0 0 0 0 r0 0 0 0 0 z H locs ls hr0 hM (lv_sub hl [2, 3, 4, 5, 6, 1, 0] rfl) hq
        · intro x1 x2 x3 x4 x5 x6 x7 x8 w5 r0 t0 t1 y0 y1 z H locs ls hr0 hM hl hq
          have hq : cm_X0_countFrom_2 vl K (cd0_X0_countFrom vl K d) (c_X0_countFrom vl K (cd0_X0_countFrom vl K d) k) x1 x2 x3 x4 x5 x6 x7 x8 w5 r0 t0 t1 y0 y1 z = some (r, z1) := hq
          unfold cm_X0_countFrom_2 at hq
          refine lv_iload hx hb dcX0_countFrom_36 (lv_at hl 6 rfl) ?_
          refine lv_iload_n hx hb dcX0_countFrom_38 rfl (lv_at hl 3 rfl) ?_
          refine lv_icmp_ge (tgt := 109) hx hb dcX0_countFrom_39 (by decide) (fun hc => ?_) (fun hc => ?_)
          · have hq := tw_it hq hc
            refine lv_lload hx hb dcX0_countFrom_109 (lv_at hl 5 rfl) ?_
            exact cw_lret hx hb hr hlocks hM hq hQQ dcX0_countFrom_111
          · have hq := tw_if hq hc
            refine lv_iload_n hx hb dcX0_countFrom_42 rfl (lv_at hl 2 rfl) ?_
            refine lv_if_ne (tgt := 56) hx hb dcX0_countFrom_43 (by decide) (fun hc => ?_) (fun hc => ?_)
            · have hq := tw_if hq hc
              refine lv_iconst (v := 1) hx hb dcX0_countFrom_56 (by decide) ?_
              exact ih_3 x1 x2 x3 x4 0 0 x7 0 w5 r0 1 0 0 0 z H locs ls hr0 hM (lv_sub hl [0, 1, 2, 3, 4, 5, 6] rfl) hq
            · have hq := tw_it hq hc
              refine lv_aload_n hx hb dcX0_countFrom_46 rfl (lv_at hl 0 rfl) ?_
              refine vgX0_31 hx hb hT hown hK hM hr0 dcX0_countFrom_47 ?_
              refine lv_iload hx hb dcX0_countFrom_50 (lv_at hl 6 rfl) ?_
              refine uw_iald cX_ok hx hb hK hM (cr_X0_7 hr0) hq dcX0_countFrom_52 (fun v7 hq => ?_)
              refine lv_goto (tgt := 57) hx hb dcX0_countFrom_53 (by decide) ?_
              exact ih_3 x1 x2 x3 x4 0 0 x7 0 w5 r0 v7 0 0 0 z H locs ls hr0 hM (lv_sub hl [0, 1, 2, 3, 4, 5, 6] rfl) hq
        · intro x1 x2 x3 x4 x5 x6 x7 x8 w5 r0 t0 t1 y0 y1 z H locs ls hr0 hM hl hq
          have hq : cm_X0_countFrom_3 vl K (cd0_X0_countFrom vl K d) (c_X0_countFrom vl K (cd0_X0_countFrom vl K d) k) x1 x2 x3 x4 x5 x6 x7 x8 w5 r0 t0 t1 y0 y1 z = some (r, z1) := hq
          unfold cm_X0_countFrom_3 at hq
          refine lv_istore (lv' := [(8, .int t0), (0, .ref (u r0)), (1, .int x1), (2, .int x2), (3, .int x3), (4, .int x4), (5, .long w5), (7, .int x7)]) hx hb dcX0_countFrom_57 hl (by decide) rfl (fun ls hl => ?_)
          refine lv_aload_n hx hb dcX0_countFrom_59 rfl (lv_at hl 1 rfl) ?_
          refine vgX0_34 hx hb hT hown hK hM hr0 dcX0_countFrom_60 ?_
          refine lv_aload_n hx hb dcX0_countFrom_63 rfl (lv_at hl 1 rfl) ?_
          refine vgX0_40 hx hb hT hown hK hM hr0 dcX0_countFrom_64 ?_
          refine lv_iload hx hb dcX0_countFrom_67 (lv_at hl 5 rfl) ?_
          refine uw_iald cX_ok hx hb hK hM (cr_X0_11 hr0) hq dcX0_countFrom_69 (fun v8 hq => ?_)
          refine lv_iload hx hb dcX0_countFrom_70 (lv_at hl 7 rfl) ?_
          refine uw_iast cX_ok hU hx hb hK hM (cr_X0_8 hr0) hq dcX0_countFrom_72 (fun z9 H locs hM hq => ?_)
          refine lv_lload hx hb dcX0_countFrom_73 (lv_at hl 6 rfl) ?_
          refine lv_iload hx hb dcX0_countFrom_75 (lv_at hl 0 rfl) ?_
          refine lv_if_ne (tgt := 84) hx hb dcX0_countFrom_77 (by decide) (fun hc => ?_) (fun hc => ?_)
          · have hq := tw_if hq hc
            refine lv_iload hx hb dcX0_countFrom_84 (lv_at hl 0 rfl) ?_
            refine lv_i2l hx hb dcX0_countFrom_86 rfl ?_
            refine lv_aload_n hx hb dcX0_countFrom_87 rfl (lv_at hl 1 rfl) ?_
            refine lv_iload hx hb dcX0_countFrom_88 (lv_at hl 5 rfl) ?_
            refine lv_iconst (v := 1) hx hb dcX0_countFrom_90 (by decide) ?_
            refine lv_iadd hx hb dcX0_countFrom_91 ?_
            refine lv_iload_n hx hb dcX0_countFrom_92 rfl (lv_at hl 3 rfl) ?_
            refine lv_iconst (v := 1) hx hb dcX0_countFrom_93 (by decide) ?_
            refine lv_iadd hx hb dcX0_countFrom_94 ?_
            refine lv_iload_n hx hb dcX0_countFrom_95 rfl (lv_at hl 4 rfl) ?_
            obtain ⟨v11, z10, hcq, hq⟩ := tw_cl1 hq
            refine uw_call hU hM (va_runV (As := [.int (x4 + 1), .int (x2 + 1), .int x3]) (rest := [.long t0.toInt64, .long w5]) ⟨hx, hb, hml, hown, hts⟩ (ihd r0 (x4 + 1) (x2 + 1) x3 hr0 z9 z10 v11 hcq) (cwV 3 hts (tw_gV wC_good xq_110 xq_111 xq_112 xq_24 xq_113) rfl rfl rfl cdd_X0_countFrom ⟨(show (0 + d + 1 : Nat) ≤ 0 + (d + 1) from by omega), (show (8 + (9 + 11) + (0 + d * 28) : Nat) ≤ 0 + (d + 1) * 28 from by omega)⟩) (cw_preV hK hM (co_X0 hr0) rfl) rfl rfl hl.1 rfl (lv_room (Nat.le_of_ble_eq_true rfl)) dcX0_countFrom_96 ⟨(Nat.le_of_ble_eq_true rfl), (Nat.le_of_ble_eq_true rfl)⟩) (fun H locs hM => ?_)
            refine lv_lmul hx hb dcX0_countFrom_99 ?_
            exact ih_4 x1 x2 x3 x4 0 0 x7 t0 w5 r0 0 0 (t0.toInt64 * v11) w5 z10 H locs ls hr0 hM (lv_sub hl [1, 2, 3, 4, 5, 6, 7, 0] rfl) hq
          · have hq := tw_it hq hc
            refine lv_lconst (v := 0) hx hb dcX0_countFrom_80 rfl ?_
            refine lv_goto (tgt := 100) hx hb dcX0_countFrom_81 (by decide) ?_
            exact ih_4 x1 x2 x3 x4 0 0 x7 t0 w5 r0 0 0 0 w5 z9 H locs ls hr0 hM (lv_sub hl [1, 2, 3, 4, 5, 6, 7, 0] rfl) hq
        · intro x1 x2 x3 x4 x5 x6 x7 x8 w5 r0 t0 t1 y0 y1 z H locs ls hr0 hM hl hq
          have hq : cm_X0_countFrom_4 vl K (cd0_X0_countFrom vl K d) (c_X0_countFrom vl K (cd0_X0_countFrom vl K d) k) x1 x2 x3 x4 x5 x6 x7 x8 w5 r0 t0 t1 y0 y1 z = some (r, z1) := hq
          unfold cm_X0_countFrom_4 at hq
          refine lv_ladd hx hb dcX0_countFrom_100 ?_
          refine lv_lstore (lv' := [(5, .long (y1 + y0)), (0, .ref (u r0)), (1, .int x1), (2, .int x2), (3, .int x3), (4, .int x4), (7, .int x7), (8, .int x8)]) hx hb dcX0_countFrom_101 hl (by decide) rfl (fun ls hl => ?_)
          refine lv_iinc (v := (x7 + 1)) (lv' := [(7, .int (x7 + 1)), (5, .long (y1 + y0)), (0, .ref (u r0)), (1, .int x1), (2, .int x2), (3, .int x3), (4, .int x4), (8, .int x8)]) hx hb dcX0_countFrom_103 hl (k := 6) rfl rfl (by decide) rfl (fun ls hl => ?_)
          refine lv_goto (tgt := 36) hx hb dcX0_countFrom_106 (by decide) ?_
          exact ih_2 x1 x2 x3 x4 0 0 (x7 + 1) 0 (y1 + y0) r0 0 0 0 0 z H locs ls hr0 hM (lv_sub hl [2, 3, 4, 5, 6, 1, 0] rfl) hq
        · intro x1 x2 x3 x4 x5 x6 x7 x8 w5 r0 t0 t1 y0 y1 z H locs ls hr0 hM hl hq
          have hq : cm_X0_countFrom_5 vl K (cd0_X0_countFrom vl K d) (c_X0_countFrom vl K (cd0_X0_countFrom vl K d) k) x1 x2 x3 x4 x5 x6 x7 x8 w5 r0 t0 t1 y0 y1 z = some (r, z1) := hq
          unfold cm_X0_countFrom_5 at hq
          refine lv_imul hx hb dcX0_countFrom_154 ?_
          refine lv_aload_n hx hb dcX0_countFrom_155 rfl (lv_at hl 0 rfl) ?_
          refine vgX0_34 hx hb hT hown hK hM hr0 dcX0_countFrom_156 ?_
          refine lv_aload_n hx hb dcX0_countFrom_159 rfl (lv_at hl 0 rfl) ?_
          refine vgX0_46 hx hb hT hown hK hM hr0 dcX0_countFrom_160 ?_
          refine lv_iload hx hb dcX0_countFrom_163 (lv_at hl 4 rfl) ?_
          refine uw_iald cX_ok hx hb hK hM (cr_X0_13 hr0) hq dcX0_countFrom_165 (fun v12 hq => ?_)
          refine uw_iald cX_ok hx hb hK hM (cr_X0_8 hr0) hq dcX0_countFrom_166 (fun v13 hq => ?_)
          refine lv_iadd hx hb dcX0_countFrom_167 ?_
          refine uw_bald cX_ok hx hb hK hM (cr_X0_5 hr0) hq dcX0_countFrom_168 (fun v14 hq => ?_)
          refine lv_istore (lv' := [(6, .int v14), (0, .ref (u r0)), (1, .int x1), (2, .int x2), (3, .int x3), (4, .int x4), (5, .int x5)]) hx hb dcX0_countFrom_169 hl (by decide) rfl (fun ls hl => ?_)
          refine lv_aload_n hx hb dcX0_countFrom_171 rfl (lv_at hl 1 rfl) ?_
          refine vgX0_37 hx hb hT hown hK hM hr0 dcX0_countFrom_172 ?_
          refine lv_iload hx hb dcX0_countFrom_175 (lv_at hl 5 rfl) ?_
          refine uw_iald cX_ok hx hb hK hM (cr_X0_10 hr0) hq dcX0_countFrom_177 (fun v15 hq => ?_)
          refine lv_iconst (v := 1) hx hb dcX0_countFrom_178 (by decide) ?_
          refine lv_icmp_ne (tgt := 199) hx hb dcX0_countFrom_179 (by decide) (fun hc => ?_) (fun hc => ?_)
          · have hq := tw_if hq hc
            refine lv_aload_n hx hb dcX0_countFrom_199 rfl (lv_at hl 1 rfl) ?_
            refine vgX0_34 hx hb hT hown hK hM hr0 dcX0_countFrom_200 ?_
            refine lv_aload_n hx hb dcX0_countFrom_203 rfl (lv_at hl 1 rfl) ?_
            refine vgX0_40 hx hb hT hown hK hM hr0 dcX0_countFrom_204 ?_
            refine lv_iload hx hb dcX0_countFrom_207 (lv_at hl 5 rfl) ?_
            refine uw_iald cX_ok hx hb hK hM (cr_X0_11 hr0) hq dcX0_countFrom_209 (fun v16 hq => ?_)
            refine uw_iald cX_ok hx hb hK hM (cr_X0_8 hr0) hq dcX0_countFrom_210 (fun v17 hq => ?_)
            refine lv_iload hx hb dcX0_countFrom_211 (lv_at hl 0 rfl) ?_
            refine lv_icmp_eq (tgt := 218) hx hb dcX0_countFrom_213 (by decide) (fun hc => ?_) (fun hc => ?_)
            · have hq := tw_it hq hc
              exact ih_6 x1 x2 x3 x4 x5 v14 0 0 0 r0 0 0 0 0 z H locs ls hr0 hM (lv_sub hl [1, 2, 3, 4, 5, 6, 0] rfl) hq
            · have hq := tw_if hq hc
              refine lv_lconst (v := 0) hx hb dcX0_countFrom_216 rfl ?_
              exact cw_lret hx hb hr hlocks hM hq hQQ dcX0_countFrom_217
          · have hq := tw_it hq hc
            refine lv_aload_n hx hb dcX0_countFrom_182 rfl (lv_at hl 1 rfl) ?_
            refine vgX0_34 hx hb hT hown hK hM hr0 dcX0_countFrom_183 ?_
            refine lv_aload_n hx hb dcX0_countFrom_186 rfl (lv_at hl 1 rfl) ?_
            refine vgX0_40 hx hb hT hown hK hM hr0 dcX0_countFrom_187 ?_
            refine lv_iload hx hb dcX0_countFrom_190 (lv_at hl 5 rfl) ?_
            refine uw_iald cX_ok hx hb hK hM (cr_X0_11 hr0) hq dcX0_countFrom_192 (fun v18 hq => ?_)
            refine lv_iload hx hb dcX0_countFrom_193 (lv_at hl 0 rfl) ?_
            refine uw_iast cX_ok hU hx hb hK hM (cr_X0_8 hr0) hq dcX0_countFrom_195 (fun z19 H locs hM hq => ?_)
            refine lv_goto (tgt := 218) hx hb dcX0_countFrom_196 (by decide) ?_
            exact ih_6 x1 x2 x3 x4 x5 v14 0 0 0 r0 0 0 0 0 z19 H locs ls hr0 hM (lv_sub hl [1, 2, 3, 4, 5, 6, 0] rfl) hq
        · intro x1 x2 x3 x4 x5 x6 x7 x8 w5 r0 t0 t1 y0 y1 z H locs ls hr0 hM hl hq
          have hq : cm_X0_countFrom_6 vl K (cd0_X0_countFrom vl K d) (c_X0_countFrom vl K (cd0_X0_countFrom vl K d) k) x1 x2 x3 x4 x5 x6 x7 x8 w5 r0 t0 t1 y0 y1 z = some (r, z1) := hq
          unfold cm_X0_countFrom_6 at hq
          refine lv_iinc (v := (x4 + 1)) (lv' := [(4, .int (x4 + 1)), (0, .ref (u r0)), (1, .int x1), (2, .int x2), (3, .int x3), (5, .int x5), (6, .int x6)]) hx hb dcX0_countFrom_218 hl (k := 4) rfl rfl (by decide) rfl (fun ls hl => ?_)
          refine lv_goto (tgt := 11) hx hb dcX0_countFrom_221 (by decide) ?_
          exact ih_1 x1 x2 x3 (x4 + 1) 0 0 0 0 0 r0 0 0 0 0 z H locs ls hr0 hM (lv_sub hl [1, 2, 3, 4, 0] rfl) hq
    exact (key K).1 x1 x2 x3 0 0 0 0 0 0 r0 0 0 0 0 z s.heap [] ls hr0 hM (lv_sub hl [0, 1, 2, 3] rfl) hq
theorem kc_X0_countFrom (l : Launch) (D : va_G) (q : Nat → ClassId) (vl u : Nat → Nat) (hU0 : tw_inj (cX vl) u) (K : Nat) (r0 : Nat) (x1 : Int32) (x2 : Int32) (x3 : Int32) (hr0 : cw_X0 r0) (z z1 : ow_MS) (r : Int64) (hq : ce_X0_countFrom vl K r0 x1 x2 x3 z = some (r, z1)) : Met l yX0_countFrom wc_X0_countFrom ({ frames := 21, cells := 0, slots := 0, locals := 588 } : Room) (va_Pc [.ref (u r0), .int x1, .int x2, .int x3] (cw_pre D q vl u z)) (va_Ql (fun x (_ : Unit) => x = r) (fun _ t => va_P D vwCl (uw (cX vl) q u z1) t.heap) (tw_A (cX vl) u)) 0 0 (tw_A (cX vl) u)   := kcd_X0_countFrom l D q vl u hU0 K 21 r0 x1 x2 x3 hr0 z z1 r hq
theorem dcX0_findClasses_0 : decode cX0_findClasses 0 = .ok (.aload_n 0, 1) := dw_at cX0_findClasses_k0 (p := 0) rfl (by decide +kernel)
theorem dcX0_findClasses_1 : decode cX0_findClasses 1 = .ok (.getfield 31, 3) := dw_at cX0_findClasses_k0 (p := 1) rfl (by decide +kernel)
theorem dcX0_findClasses_4 : decode cX0_findClasses 4 = .ok (.iconst 0, 1) := dw_at cX0_findClasses_k0 (p := 4) rfl (by decide +kernel)
theorem dcX0_findClasses_5 : decode cX0_findClasses 5 = .ok (.invokestatic 76, 3) := dw_at cX0_findClasses_k0 (p := 5) rfl (by decide +kernel)
theorem dcX0_findClasses_8 : decode cX0_findClasses 8 = .ok (.iconst 0, 1) := dw_at cX0_findClasses_k0 (p := 8) rfl (by decide +kernel)
theorem dcX0_findClasses_9 : decode cX0_findClasses 9 = .ok (.istore_n 2, 1) := dw_at cX0_findClasses_k0 (p := 9) rfl (by decide +kernel)
theorem dcX0_findClasses_10 : decode cX0_findClasses 10 = .ok (.iload_n 2, 1) := dw_at cX0_findClasses_k0 (p := 10) rfl (by decide +kernel)
theorem dcX0_findClasses_11 : decode cX0_findClasses 11 = .ok (.iload_n 1, 1) := dw_at cX0_findClasses_k0 (p := 11) rfl (by decide +kernel)
theorem dcX0_findClasses_12 : decode cX0_findClasses 12 = .ok (.if_icmp .ge 53, 3) := dw_at cX0_findClasses_k0 (p := 12) rfl (by decide +kernel)
theorem dcX0_findClasses_15 : decode cX0_findClasses 15 = .ok (.iload_n 2, 1) := dw_at cX0_findClasses_k0 (p := 15) rfl (by decide +kernel)
theorem dcX0_findClasses_16 : decode cX0_findClasses 16 = .ok (.istore_n 3, 1) := dw_at cX0_findClasses_k0 (p := 16) rfl (by decide +kernel)
theorem dcX0_findClasses_17 : decode cX0_findClasses 17 = .ok (.iconst 0, 1) := dw_at cX0_findClasses_k0 (p := 17) rfl (by decide +kernel)
theorem dcX0_findClasses_18 : decode cX0_findClasses 18 = .ok (.istore 4, 2) := dw_at cX0_findClasses_k0 (p := 18) rfl (by decide +kernel)
theorem dcX0_findClasses_20 : decode cX0_findClasses 20 = .ok (.iload 4, 2) := dw_at cX0_findClasses_k0 (p := 20) rfl (by decide +kernel)
theorem dcX0_findClasses_22 : decode cX0_findClasses 22 = .ok (.iload_n 1, 1) := dw_at cX0_findClasses_k0 (p := 22) rfl (by decide +kernel)
theorem dcX0_findClasses_23 : decode cX0_findClasses 23 = .ok (.if_icmp .ge 26, 3) := dw_at cX0_findClasses_k0 (p := 23) rfl (by decide +kernel)
theorem dcX0_findClasses_26 : decode cX0_findClasses 26 = .ok (.iload_n 3, 1) := dw_at cX0_findClasses_k1 (p := 0) rfl (by decide +kernel)
theorem dcX0_findClasses_27 : decode cX0_findClasses 27 = .ok (.aload_n 0, 1) := dw_at cX0_findClasses_k1 (p := 1) rfl (by decide +kernel)
theorem dcX0_findClasses_28 : decode cX0_findClasses 28 = .ok (.getfield 24, 3) := dw_at cX0_findClasses_k1 (p := 2) rfl (by decide +kernel)
theorem dcX0_findClasses_31 : decode cX0_findClasses 31 = .ok (.bipush 24, 2) := dw_at cX0_findClasses_k1 (p := 5) rfl (by decide +kernel)
theorem dcX0_findClasses_33 : decode cX0_findClasses 33 = .ok (.iload 4, 2) := dw_at cX0_findClasses_k1 (p := 7) rfl (by decide +kernel)
theorem dcX0_findClasses_35 : decode cX0_findClasses 35 = .ok (.imul, 1) := dw_at cX0_findClasses_k1 (p := 9) rfl (by decide +kernel)
theorem dcX0_findClasses_36 : decode cX0_findClasses 36 = .ok (.iload_n 2, 1) := dw_at cX0_findClasses_k1 (p := 10) rfl (by decide +kernel)
theorem dcX0_findClasses_37 : decode cX0_findClasses 37 = .ok (.iadd, 1) := dw_at cX0_findClasses_k1 (p := 11) rfl (by decide +kernel)
theorem dcX0_findClasses_38 : decode cX0_findClasses 38 = .ok (.baload, 1) := dw_at cX0_findClasses_k1 (p := 12) rfl (by decide +kernel)
theorem dcX0_findClasses_39 : decode cX0_findClasses 39 = .ok (.invokestatic 147, 3) := dw_at cX0_findClasses_k1 (p := 13) rfl (by decide +kernel)
theorem dcX0_findClasses_42 : decode cX0_findClasses 42 = .ok (.istore_n 3, 1) := dw_at cX0_findClasses_k1 (p := 16) rfl (by decide +kernel)
theorem dcX0_findClasses_43 : decode cX0_findClasses 43 = .ok (.iinc 4 1, 3) := dw_at cX0_findClasses_k1 (p := 17) rfl (by decide +kernel)
theorem dcX0_findClasses_46 : decode cX0_findClasses 46 = .ok (.goto (-26), 3) := dw_at cX0_findClasses_k1 (p := 20) rfl (by decide +kernel)
theorem dcX0_findClasses_49 : decode cX0_findClasses 49 = .ok (.aload_n 0, 1) := dw_at cX0_findClasses_k1 (p := 23) rfl (by decide +kernel)
theorem dcX0_findClasses_50 : decode cX0_findClasses 50 = .ok (.getfield 31, 3) := dw_at cX0_findClasses_k2 (p := 0) rfl (by decide +kernel)
theorem dcX0_findClasses_53 : decode cX0_findClasses 53 = .ok (.iload_n 3, 1) := dw_at cX0_findClasses_k2 (p := 3) rfl (by decide +kernel)
theorem dcX0_findClasses_54 : decode cX0_findClasses 54 = .ok (.dup2, 1) := dw_at cX0_findClasses_k2 (p := 4) rfl (by decide +kernel)
theorem dcX0_findClasses_55 : decode cX0_findClasses 55 = .ok (.iaload, 1) := dw_at cX0_findClasses_k2 (p := 5) rfl (by decide +kernel)
theorem dcX0_findClasses_56 : decode cX0_findClasses 56 = .ok (.iconst 1, 1) := dw_at cX0_findClasses_k2 (p := 6) rfl (by decide +kernel)
theorem dcX0_findClasses_57 : decode cX0_findClasses 57 = .ok (.iadd, 1) := dw_at cX0_findClasses_k2 (p := 7) rfl (by decide +kernel)
theorem dcX0_findClasses_58 : decode cX0_findClasses 58 = .ok (.iastore, 1) := dw_at cX0_findClasses_k2 (p := 8) rfl (by decide +kernel)
theorem dcX0_findClasses_59 : decode cX0_findClasses 59 = .ok (.iinc 2 1, 3) := dw_at cX0_findClasses_k2 (p := 9) rfl (by decide +kernel)
theorem dcX0_findClasses_62 : decode cX0_findClasses 62 = .ok (.goto (-52), 3) := dw_at cX0_findClasses_k2 (p := 12) rfl (by decide +kernel)
theorem dcX0_findClasses_65 : decode cX0_findClasses 65 = .ok (.return_, 1) := dw_at cX0_findClasses_k2 (p := 15) rfl (by decide +kernel)
def cm_X0_findClasses_0 (vl : Nat → Nat) (K : Nat) (go : Nat → Int32 → Int32 → Int32 → Int32 → Nat → ow_MS → Option ow_MS) (x1 : Int32) (x2 : Int32) (x3 : Int32) (x4 : Int32) (r0 : Nat) (z : ow_MS) : Option ow_MS :=
 cs0 (ce_J7_fill_53178 vl K (r0 + 8) 0 z) fun z1 => go 1 x1 0 0 0 r0 z1
def cm_X0_findClasses_1 (vl : Nat → Nat) (K : Nat) (go : Nat → Int32 → Int32 → Int32 → Int32 → Nat → ow_MS → Option ow_MS) (x1 : Int32) (x2 : Int32) (x3 : Int32) (x4 : Int32) (r0 : Nat) (z : ow_MS) : Option ow_MS :=
 (if x1 ≤ x2 then some z
 else go 2 x1 x2 x2 0 r0 z)
def cm_X0_findClasses_2 (vl : Nat → Nat) (K : Nat) (go : Nat → Int32 → Int32 → Int32 → Int32 → Nat → ow_MS → Option ow_MS) (x1 : Int32) (x2 : Int32) (x3 : Int32) (x4 : Int32) (r0 : Nat) (z : ow_MS) : Option ow_MS :=
 (if x1 ≤ x4 then crI (cX vl) z (r0 + 8) x3 fun v2 => ctI (cX vl) z (r0 + 8) x3 (v2 + 1) fun z3 => go 1 x1 (x2 + 1) 0 0 r0 z3
 else crI (cX vl) z (r0 + 6) ((24 * x4) + x2) fun v4 => go 2 x1 x2 (if v4 < x3 then v4 else x3) (x4 + 1) r0 z)
def cb_X0_findClasses (vl : Nat → Nat) (K : Nat) (go : Nat → Int32 → Int32 → Int32 → Int32 → Nat → ow_MS → Option ow_MS) (L : Nat) (x1 : Int32) (x2 : Int32) (x3 : Int32) (x4 : Int32) (r0 : Nat) (z : ow_MS) : Option ow_MS := match L with
  | 0 => cm_X0_findClasses_0 vl K go x1 x2 x3 x4 r0 z
  | 1 => cm_X0_findClasses_1 vl K go x1 x2 x3 x4 r0 z
  | 2 => cm_X0_findClasses_2 vl K go x1 x2 x3 x4 r0 z
  | _ => none
def c_X0_findClasses (vl : Nat → Nat) (K : Nat) : Nat → Nat → Int32 → Int32 → Int32 → Int32 → Nat → ow_MS → Option ow_MS
  | 0 => fun _ _ _ _ _ _ _ => none
  | k + 1 => cb_X0_findClasses vl K (c_X0_findClasses vl K k)
def ce_X0_findClasses (vl : Nat → Nat) (K : Nat) (r0 : Nat) (x1 : Int32) (z : ow_MS) : Option ow_MS := c_X0_findClasses vl K K 0 x1 0 0 0 r0 z
abbrev wc_X0_findClasses : List Cond := .code yX0_findClasses cX0_findClasses 5 none :: wC
theorem cdd_X0_findClasses : yX0_findClasses.cls = RX0 ∧ yX0_findClasses.cls ≠ "java/lang/invoke/MethodHandle" ∧ yX0_findClasses.cls ≠ "java/lang/invoke/VarHandle" ∧ (parseMethodDescriptor yX0_findClasses.desc).map (fun d => d.parameters.length) = some 1 := by decide +kernel
set_option maxHeartbeats 4000000 in
set_option maxRecDepth 100000 in
theorem kc_X0_findClasses (l : Launch) (D : va_G) (q : Nat → ClassId) (vl u : Nat → Nat) (hU0 : tw_inj (cX vl) u) (K : Nat) (r0 : Nat) (x1 : Int32) (hr0 : cw_X0 r0) (z z1 : ow_MS) (hq : ce_X0_findClasses vl K r0 x1 z = some z1) : Met l yX0_findClasses wc_X0_findClasses ({ frames := 1, cells := 0, slots := 0, locals := 29 } : Room) (va_Pc [.ref (u r0), .int x1] (cw_pre D q vl u z)) (va_Qv (fun (_ : Unit) => True) (fun _ t => va_P D vwCl (uw (cX vl) q u z1) t.heap) (tw_A (cX vl) u)) 0 0 (tw_A (cX vl) u) := by
  refine Met.ofW (cc := cX0_findClasses) (maxL := 5) (ret := none) (by decide) rfl ?_
  intro p e s m args below meth c s₁ B hml hv
  obtain ⟨rfl, hP, hK⟩ := hv
  have hx := B.exec
  have hb := B.bytes
  have hr := B.returns
  have hts := atoms_spec (ws := wc_X0_findClasses) B.pre
  have hT : ∀ w ∈ wC, w.before ([.ref (u r0), .int x1] : List Value).toArray s = true := fun w h => hts w (List.mem_cons_of_mem _ h)
  have hown : s.vm.findClass RX0 = some m.cls := findClass_of_methodNamed B.named
  have hlocks := B.notSynchronized
  have hU : uw_inj (cX vl) u (tw_A (cX vl) u) := ⟨hU0, fun h hh => ⟨h, hh, rfl⟩⟩
  have hM : uw_M D vwCl (cX vl) q (tw_A (cX vl) u) s.heap u z s.heap [] := ⟨hP, va_S.rf⟩
  have hl := lv_entry ([.ref (u r0), .int x1]) (n := 5) (Nat.le_of_ble_eq_true rfl)
  rw [lg_entry_eq]
  generalize (lg_sl ([.ref (u r0), .int x1]) ++ List.replicate (5 - (lg_sl ([.ref (u r0), .int x1])).length) Slot.unset).toArray = ls at hl ⊢
  have hl : lv_has ls 5 [(0, .ref (u r0)), (1, .int x1)] := hl
  refine ow_named (fun QQ hQQ => ?_)
  generalize ([.ref (u r0), .int x1] : List Value).toArray = args at hts hT hQQ ⊢
  have key : ∀ k : Nat, (∀ (x1 : Int32) (x2 : Int32) (x3 : Int32) (x4 : Int32) (r0 : Nat) (z : ow_MS) (H : Heap) (locs : List Loc) (ls : Array Slot), cw_X0 r0 → uw_M D vwCl (cX vl) q (tw_A (cX vl) u) s.heap u z H locs → lv_has ls 5 [(0, .ref (u r0)), (1, .int x1)] → c_X0_findClasses vl K k 0 x1 x2 x3 x4 r0 z = some z1 → W p l e ({ frames := 1, cells := 0, slots := 0, locals := 29 } : Room) s m args below meth c H locs 0 0 QQ (F0 m 0 ls [])) ∧ (∀ (x1 : Int32) (x2 : Int32) (x3 : Int32) (x4 : Int32) (r0 : Nat) (z : ow_MS) (H : Heap) (locs : List Loc) (ls : Array Slot), cw_X0 r0 → uw_M D vwCl (cX vl) q (tw_A (cX vl) u) s.heap u z H locs → lv_has ls 5 [(0, .ref (u r0)), (1, .int x1), (2, .int x2)] → c_X0_findClasses vl K k 1 x1 x2 x3 x4 r0 z = some z1 → W p l e ({ frames := 1, cells := 0, slots := 0, locals := 29 } : Room) s m args below meth c H locs 0 0 QQ (F0 m 10 ls [])) ∧ (∀ (x1 : Int32) (x2 : Int32) (x3 : Int32) (x4 : Int32) (r0 : Nat) (z : ow_MS) (H : Heap) (locs : List Loc) (ls : Array Slot), cw_X0 r0 → uw_M D vwCl (cX vl) q (tw_A (cX vl) u) s.heap u z H locs → lv_has ls 5 [(0, .ref (u r0)), (1, .int x1), (2, .int x2), (3, .int x3), (4, .int x4)] → c_X0_findClasses vl K k 2 x1 x2 x3 x4 r0 z = some z1 → W p l e ({ frames := 1, cells := 0, slots := 0, locals := 29 } : Room) s m args below meth c H locs 0 0 QQ (F0 m 20 ls [])) := by
    intro k
    induction k with
    | zero => exact ⟨fun _ _ _ _ _ _ _ _ _ _ _ _ hq => cw_no hq, fun _ _ _ _ _ _ _ _ _ _ _ _ hq => cw_no hq, fun _ _ _ _ _ _ _ _ _ _ _ _ hq => cw_no hq⟩
    | succ k ih =>
      obtain ⟨ih_0, ih_1, ih_2⟩ := ih
      refine ⟨?_, ?_, ?_⟩
      · intro x1 x2 x3 x4 r0 z H locs ls hr0 hM hl hq
        have hq : cm_X0_findClasses_0 vl K (c_X0_findClasses vl K k) x1 x2 x3 x4 r0 z = some z1 := hq
        unfold cm_X0_findClasses_0 at hq
        refine lv_aload_n hx hb dcX0_findClasses_0 rfl (lv_at hl 0 rfl) ?_
        refine vgX0_31 hx hb hT hown hK hM hr0 dcX0_findClasses_1 ?_
        refine lv_iconst (v := 0) hx hb dcX0_findClasses_4 (by decide) ?_
        obtain ⟨z1, hcq, hq⟩ := tw_cl0 hq
        refine uw_calv hU hM (va_runS (As := [.ref (u (r0 + 8)), .int 0]) (rest := []) ⟨hx, hb, hml, hown, hts⟩ (kc_J7_fill_53178 l D q vl u hU.1 K (r0 + 8) 0 (cr_X0_7 hr0) z z1 hcq) (va_cwS 2 hts (tw_gS wC_good xq_7 xq_8 xq_9 xq_10) rfl rfl rfl cdd_J7_fill_53178 ⟨(Nat.le_of_ble_eq_true rfl), (Nat.le_of_ble_eq_true rfl)⟩) (cw_preS hK hM) rfl rfl hl.1 rfl (lv_room (Nat.le_of_ble_eq_true rfl)) dcX0_findClasses_5 ⟨(Nat.le_of_ble_eq_true rfl), (Nat.le_of_ble_eq_true rfl)⟩) (fun H locs hM => ?_)
        refine lv_iconst (v := 0) hx hb dcX0_findClasses_8 (by decide) ?_
        refine lv_istore_n (lv' := [(2, .int 0), (0, .ref (u r0)), (1, .int x1)]) hx hb dcX0_findClasses_9 rfl hl (by decide) rfl (fun ls hl => ?_)
        exact ih_1 x1 0 0 0 r0 z1 H locs ls hr0 hM (lv_sub hl [1, 2, 0] rfl) hq
      · intro x1 x2 x3 x4 r0 z H locs ls hr0 hM hl hq
        have hq : cm_X0_findClasses_1 vl K (c_X0_findClasses vl K k) x1 x2 x3 x4 r0 z = some z1 := hq
        unfold cm_X0_findClasses_1 at hq
        refine lv_iload_n hx hb dcX0_findClasses_10 rfl (lv_at hl 2 rfl) ?_
        refine lv_iload_n hx hb dcX0_findClasses_11 rfl (lv_at hl 1 rfl) ?_
        refine lv_icmp_ge (tgt := 65) hx hb dcX0_findClasses_12 (by decide) (fun hc => ?_) (fun hc => ?_)
        · have hq := tw_it hq hc
          exact cw_vret hx hb hr hlocks hM hq hQQ dcX0_findClasses_65
        · have hq := tw_if hq hc
          refine lv_iload_n hx hb dcX0_findClasses_15 rfl (lv_at hl 2 rfl) ?_
          refine lv_istore_n (lv' := [(3, .int x2), (0, .ref (u r0)), (1, .int x1), (2, .int x2)]) hx hb dcX0_findClasses_16 rfl hl (by decide) rfl (fun ls hl => ?_)
          refine lv_iconst (v := 0) hx hb dcX0_findClasses_17 (by decide) ?_
          refine lv_istore (lv' := [(4, .int 0), (3, .int x2), (0, .ref (u r0)), (1, .int x1), (2, .int x2)]) hx hb dcX0_findClasses_18 hl (by decide) rfl (fun ls hl => ?_)
          exact ih_2 x1 x2 x2 0 r0 z H locs ls hr0 hM (lv_sub hl [2, 3, 4, 1, 0] rfl) hq
      · intro x1 x2 x3 x4 r0 z H locs ls hr0 hM hl hq
        have hq : cm_X0_findClasses_2 vl K (c_X0_findClasses vl K k) x1 x2 x3 x4 r0 z = some z1 := hq
        unfold cm_X0_findClasses_2 at hq
        refine lv_iload hx hb dcX0_findClasses_20 (lv_at hl 4 rfl) ?_
        refine lv_iload_n hx hb dcX0_findClasses_22 rfl (lv_at hl 1 rfl) ?_
        refine lv_icmp_ge (tgt := 49) hx hb dcX0_findClasses_23 (by decide) (fun hc => ?_) (fun hc => ?_)
        · have hq := tw_it hq hc
          refine lv_aload_n hx hb dcX0_findClasses_49 rfl (lv_at hl 0 rfl) ?_
          refine vgX0_31 hx hb hT hown hK hM hr0 dcX0_findClasses_50 ?_
          refine lv_iload_n hx hb dcX0_findClasses_53 rfl (lv_at hl 3 rfl) ?_
          refine lv_dup2_11 hx hb dcX0_findClasses_54 rfl rfl ?_
          refine uw_iald cX_ok hx hb hK hM (cr_X0_7 hr0) hq dcX0_findClasses_55 (fun v2 hq => ?_)
          refine lv_iconst (v := 1) hx hb dcX0_findClasses_56 (by decide) ?_
          refine lv_iadd hx hb dcX0_findClasses_57 ?_
          refine uw_iast cX_ok hU hx hb hK hM (cr_X0_7 hr0) hq dcX0_findClasses_58 (fun z3 H locs hM hq => ?_)
          refine lv_iinc (v := (x2 + 1)) (lv' := [(2, .int (x2 + 1)), (0, .ref (u r0)), (1, .int x1), (3, .int x3), (4, .int x4)]) hx hb dcX0_findClasses_59 hl (k := 2) rfl rfl (by decide) rfl (fun ls hl => ?_)
          refine lv_goto (tgt := 10) hx hb dcX0_findClasses_62 (by decide) ?_
          exact ih_1 x1 (x2 + 1) 0 0 r0 z3 H locs ls hr0 hM (lv_sub hl [1, 2, 0] rfl) hq
        · have hq := tw_if hq hc
          refine lv_iload_n hx hb dcX0_findClasses_26 rfl (lv_at hl 3 rfl) ?_
          refine lv_aload_n hx hb dcX0_findClasses_27 rfl (lv_at hl 0 rfl) ?_
          refine vgX0_24 hx hb hT hown hK hM hr0 dcX0_findClasses_28 ?_
          refine lv_bipush (v := 24) hx hb dcX0_findClasses_31 (by decide) ?_
          refine lv_iload hx hb dcX0_findClasses_33 (lv_at hl 4 rfl) ?_
          refine lv_imul hx hb dcX0_findClasses_35 ?_
          refine lv_iload_n hx hb dcX0_findClasses_36 rfl (lv_at hl 2 rfl) ?_
          refine lv_iadd hx hb dcX0_findClasses_37 ?_
          refine uw_bald cX_ok hx hb hK hM (cr_X0_5 hr0) hq dcX0_findClasses_38 (fun v4 hq => ?_)
          refine va_mmin hx hb (by rw [hml]; exact hl.1.symm) hown (hT _ xq_75) (hT _ xq_76) (hT _ xq_18) (hT _ xq_77) (Nat.le_of_ble_eq_true rfl) (by decide) (Nat.le_of_ble_eq_true rfl) (Nat.le_of_ble_eq_true rfl) dcX0_findClasses_39 ?_
          refine lv_istore_n (lv' := [(3, .int (if v4 < x3 then v4 else x3)), (0, .ref (u r0)), (1, .int x1), (2, .int x2), (4, .int x4)]) hx hb dcX0_findClasses_42 rfl hl (by decide) rfl (fun ls hl => ?_)
          refine lv_iinc (v := (x4 + 1)) (lv' := [(4, .int (x4 + 1)), (3, .int (if v4 < x3 then v4 else x3)), (0, .ref (u r0)), (1, .int x1), (2, .int x2)]) hx hb dcX0_findClasses_43 hl (k := 4) rfl rfl (by decide) rfl (fun ls hl => ?_)
          refine lv_goto (tgt := 20) hx hb dcX0_findClasses_46 (by decide) ?_
          exact ih_2 x1 x2 (if v4 < x3 then v4 else x3) (x4 + 1) r0 z H locs ls hr0 hM (lv_sub hl [2, 3, 4, 1, 0] rfl) hq
  exact (key K).1 x1 0 0 0 r0 z s.heap [] ls hr0 hM (lv_sub hl [0, 1] rfl) hq
theorem dcX0_addStep_0 : decode cX0_addStep 0 = .ok (.aload_n 0, 1) := dw_at cX0_addStep_k0 (p := 0) rfl (by decide +kernel)
theorem dcX0_addStep_1 : decode cX0_addStep 1 = .ok (.getfield 163, 3) := dw_at cX0_addStep_k0 (p := 1) rfl (by decide +kernel)
theorem dcX0_addStep_4 : decode cX0_addStep 4 = .ok (.aload_n 0, 1) := dw_at cX0_addStep_k0 (p := 4) rfl (by decide +kernel)
theorem dcX0_addStep_5 : decode cX0_addStep 5 = .ok (.getfield 37, 3) := dw_at cX0_addStep_k0 (p := 5) rfl (by decide +kernel)
theorem dcX0_addStep_8 : decode cX0_addStep 8 = .ok (.arraylength, 1) := dw_at cX0_addStep_k0 (p := 8) rfl (by decide +kernel)
theorem dcX0_addStep_9 : decode cX0_addStep 9 = .ok (.if_icmp .ge 65, 3) := dw_at cX0_addStep_k0 (p := 9) rfl (by decide +kernel)
theorem dcX0_addStep_12 : decode cX0_addStep 12 = .ok (.aload_n 0, 1) := dw_at cX0_addStep_k0 (p := 12) rfl (by decide +kernel)
theorem dcX0_addStep_13 : decode cX0_addStep 13 = .ok (.getfield 37, 3) := dw_at cX0_addStep_k0 (p := 13) rfl (by decide +kernel)
theorem dcX0_addStep_16 : decode cX0_addStep 16 = .ok (.aload_n 0, 1) := dw_at cX0_addStep_k0 (p := 16) rfl (by decide +kernel)
theorem dcX0_addStep_17 : decode cX0_addStep 17 = .ok (.getfield 163, 3) := dw_at cX0_addStep_k0 (p := 17) rfl (by decide +kernel)
theorem dcX0_addStep_20 : decode cX0_addStep 20 = .ok (.iload_n 1, 1) := dw_at cX0_addStep_k0 (p := 20) rfl (by decide +kernel)
theorem dcX0_addStep_21 : decode cX0_addStep 21 = .ok (.iastore, 1) := dw_at cX0_addStep_k0 (p := 21) rfl (by decide +kernel)
theorem dcX0_addStep_22 : decode cX0_addStep 22 = .ok (.aload_n 0, 1) := dw_at cX0_addStep_k0 (p := 22) rfl (by decide +kernel)
theorem dcX0_addStep_23 : decode cX0_addStep 23 = .ok (.getfield 40, 3) := dw_at cX0_addStep_k0 (p := 23) rfl (by decide +kernel)
theorem dcX0_addStep_26 : decode cX0_addStep 26 = .ok (.aload_n 0, 1) := dw_at cX0_addStep_k1 (p := 0) rfl (by decide +kernel)
theorem dcX0_addStep_27 : decode cX0_addStep 27 = .ok (.getfield 163, 3) := dw_at cX0_addStep_k1 (p := 1) rfl (by decide +kernel)
theorem dcX0_addStep_30 : decode cX0_addStep 30 = .ok (.iload_n 2, 1) := dw_at cX0_addStep_k1 (p := 4) rfl (by decide +kernel)
theorem dcX0_addStep_31 : decode cX0_addStep 31 = .ok (.iastore, 1) := dw_at cX0_addStep_k1 (p := 5) rfl (by decide +kernel)
theorem dcX0_addStep_32 : decode cX0_addStep 32 = .ok (.aload_n 0, 1) := dw_at cX0_addStep_k1 (p := 6) rfl (by decide +kernel)
theorem dcX0_addStep_33 : decode cX0_addStep 33 = .ok (.getfield 43, 3) := dw_at cX0_addStep_k1 (p := 7) rfl (by decide +kernel)
theorem dcX0_addStep_36 : decode cX0_addStep 36 = .ok (.aload_n 0, 1) := dw_at cX0_addStep_k1 (p := 10) rfl (by decide +kernel)
theorem dcX0_addStep_37 : decode cX0_addStep 37 = .ok (.getfield 163, 3) := dw_at cX0_addStep_k1 (p := 11) rfl (by decide +kernel)
theorem dcX0_addStep_40 : decode cX0_addStep 40 = .ok (.iload_n 3, 1) := dw_at cX0_addStep_k1 (p := 14) rfl (by decide +kernel)
theorem dcX0_addStep_41 : decode cX0_addStep 41 = .ok (.iastore, 1) := dw_at cX0_addStep_k1 (p := 15) rfl (by decide +kernel)
theorem dcX0_addStep_42 : decode cX0_addStep 42 = .ok (.aload_n 0, 1) := dw_at cX0_addStep_k1 (p := 16) rfl (by decide +kernel)
theorem dcX0_addStep_43 : decode cX0_addStep 43 = .ok (.getfield 46, 3) := dw_at cX0_addStep_k1 (p := 17) rfl (by decide +kernel)
theorem dcX0_addStep_46 : decode cX0_addStep 46 = .ok (.aload_n 0, 1) := dw_at cX0_addStep_k1 (p := 20) rfl (by decide +kernel)
theorem dcX0_addStep_47 : decode cX0_addStep 47 = .ok (.getfield 163, 3) := dw_at cX0_addStep_k1 (p := 21) rfl (by decide +kernel)
theorem dcX0_addStep_50 : decode cX0_addStep 50 = .ok (.iload 4, 2) := dw_at cX0_addStep_k2 (p := 0) rfl (by decide +kernel)
theorem dcX0_addStep_52 : decode cX0_addStep 52 = .ok (.iastore, 1) := dw_at cX0_addStep_k2 (p := 2) rfl (by decide +kernel)
theorem dcX0_addStep_53 : decode cX0_addStep 53 = .ok (.aload_n 0, 1) := dw_at cX0_addStep_k2 (p := 3) rfl (by decide +kernel)
theorem dcX0_addStep_54 : decode cX0_addStep 54 = .ok (.getfield 49, 3) := dw_at cX0_addStep_k2 (p := 4) rfl (by decide +kernel)
theorem dcX0_addStep_57 : decode cX0_addStep 57 = .ok (.aload_n 0, 1) := dw_at cX0_addStep_k2 (p := 7) rfl (by decide +kernel)
theorem dcX0_addStep_58 : decode cX0_addStep 58 = .ok (.getfield 163, 3) := dw_at cX0_addStep_k2 (p := 8) rfl (by decide +kernel)
theorem dcX0_addStep_61 : decode cX0_addStep 61 = .ok (.iload 5, 2) := dw_at cX0_addStep_k2 (p := 11) rfl (by decide +kernel)
theorem dcX0_addStep_63 : decode cX0_addStep 63 = .ok (.bastore, 1) := dw_at cX0_addStep_k2 (p := 13) rfl (by decide +kernel)
theorem dcX0_addStep_64 : decode cX0_addStep 64 = .ok (.aload_n 0, 1) := dw_at cX0_addStep_k2 (p := 14) rfl (by decide +kernel)
theorem dcX0_addStep_65 : decode cX0_addStep 65 = .ok (.dup, 1) := dw_at cX0_addStep_k2 (p := 15) rfl (by decide +kernel)
theorem dcX0_addStep_66 : decode cX0_addStep 66 = .ok (.getfield 163, 3) := dw_at cX0_addStep_k2 (p := 16) rfl (by decide +kernel)
theorem dcX0_addStep_69 : decode cX0_addStep 69 = .ok (.iconst 1, 1) := dw_at cX0_addStep_k2 (p := 19) rfl (by decide +kernel)
theorem dcX0_addStep_70 : decode cX0_addStep 70 = .ok (.iadd, 1) := dw_at cX0_addStep_k2 (p := 20) rfl (by decide +kernel)
theorem dcX0_addStep_71 : decode cX0_addStep 71 = .ok (.putfield 163, 3) := dw_at cX0_addStep_k2 (p := 21) rfl (by decide +kernel)
theorem dcX0_addStep_74 : decode cX0_addStep 74 = .ok (.return_, 1) := dw_at cX0_addStep_k2 (p := 24) rfl (by decide +kernel)
def cm_X0_addStep_0 (vl : Nat → Nat) (K : Nat) (x1 : Int32) (x2 : Int32) (x3 : Int32) (x4 : Int32) (x5 : Int32) (r0 : Nat) (z : ow_MS) : Option ow_MS :=
 rdF z (r0 + 10) fun v1 => (if (Int32.ofNat (uw_len (cX vl) z (r0 + 11))) ≤ v1 then some z
 else rdF z (r0 + 10) fun v2 => ctI (cX vl) z (r0 + 11) v2 x1 fun z3 => rdF z3 (r0 + 10) fun v4 => ctI (cX vl) z3 (r0 + 12) v4 x2 fun z5 => rdF z5 (r0 + 10) fun v6 => ctI (cX vl) z5 (r0 + 13) v6 x3 fun z7 => rdF z7 (r0 + 10) fun v8 => ctI (cX vl) z7 (r0 + 14) v8 x4 fun z9 => rdF z9 (r0 + 10) fun v10 => ctZ (cX vl) z9 (r0 + 15) v10 x5 fun z11 => rdF z11 (r0 + 10) fun v12 => wrF z11 (r0 + 10) (v12 + 1) fun z13 => some z13)
def ce_X0_addStep (vl : Nat → Nat) (K : Nat) (r0 : Nat) (x1 : Int32) (x2 : Int32) (x3 : Int32) (x4 : Int32) (x5 : Int32) (z : ow_MS) : Option ow_MS := cm_X0_addStep_0 vl K x1 x2 x3 x4 x5 r0 z
abbrev wc_X0_addStep : List Cond := .code yX0_addStep cX0_addStep 6 none :: wC
theorem cdd_X0_addStep : yX0_addStep.cls = RX0 ∧ yX0_addStep.cls ≠ "java/lang/invoke/MethodHandle" ∧ yX0_addStep.cls ≠ "java/lang/invoke/VarHandle" ∧ (parseMethodDescriptor yX0_addStep.desc).map (fun d => d.parameters.length) = some 5 := by decide +kernel
set_option maxHeartbeats 4000000 in
set_option maxRecDepth 100000 in
theorem kc_X0_addStep (l : Launch) (D : va_G) (q : Nat → ClassId) (vl u : Nat → Nat) (hU0 : tw_inj (cX vl) u) (K : Nat) (r0 : Nat) (x1 : Int32) (x2 : Int32) (x3 : Int32) (x4 : Int32) (x5 : Int32) (hr0 : cw_X0 r0) (z z1 : ow_MS) (hq : ce_X0_addStep vl K r0 x1 x2 x3 x4 x5 z = some z1) : Met l yX0_addStep wc_X0_addStep ({ frames := 0, cells := 0, slots := 0, locals := 0 } : Room) (va_Pc [.ref (u r0), .int x1, .int x2, .int x3, .int x4, .int x5] (cw_pre D q vl u z)) (va_Qv (fun (_ : Unit) => True) (fun _ t => va_P D vwCl (uw (cX vl) q u z1) t.heap) (tw_A (cX vl) u)) 0 0 (tw_A (cX vl) u) := by
  refine Met.ofW (cc := cX0_addStep) (maxL := 6) (ret := none) (by decide) rfl ?_
  intro p e s m args below meth c s₁ B hml hv
  obtain ⟨rfl, hP, hK⟩ := hv
  have hx := B.exec
  have hb := B.bytes
  have hr := B.returns
  have hts := atoms_spec (ws := wc_X0_addStep) B.pre
  have hT : ∀ w ∈ wC, w.before ([.ref (u r0), .int x1, .int x2, .int x3, .int x4, .int x5] : List Value).toArray s = true := fun w h => hts w (List.mem_cons_of_mem _ h)
  have hown : s.vm.findClass RX0 = some m.cls := findClass_of_methodNamed B.named
  have hlocks := B.notSynchronized
  have hU : uw_inj (cX vl) u (tw_A (cX vl) u) := ⟨hU0, fun h hh => ⟨h, hh, rfl⟩⟩
  have hM : uw_M D vwCl (cX vl) q (tw_A (cX vl) u) s.heap u z s.heap [] := ⟨hP, va_S.rf⟩
  have hl := lv_entry ([.ref (u r0), .int x1, .int x2, .int x3, .int x4, .int x5]) (n := 6) (Nat.le_of_ble_eq_true rfl)
  rw [lg_entry_eq]
  generalize (lg_sl ([.ref (u r0), .int x1, .int x2, .int x3, .int x4, .int x5]) ++ List.replicate (6 - (lg_sl ([.ref (u r0), .int x1, .int x2, .int x3, .int x4, .int x5])).length) Slot.unset).toArray = ls at hl ⊢
  have hl : lv_has ls 6 [(0, .ref (u r0)), (1, .int x1), (2, .int x2), (3, .int x3), (4, .int x4), (5, .int x5)] := hl
  refine ow_named (fun QQ hQQ => ?_)
  generalize ([.ref (u r0), .int x1, .int x2, .int x3, .int x4, .int x5] : List Value).toArray = args at hts hT hQQ ⊢
  have hq : cm_X0_addStep_0 vl K x1 x2 x3 x4 x5 r0 z = some z1 := hq
  unfold cm_X0_addStep_0 at hq
  suffices key : ∀ (H : Heap) (locs : List Loc), uw_M D vwCl (cX vl) q (tw_A (cX vl) u) s.heap u z H locs → W p l e ({ frames := 0, cells := 0, slots := 0, locals := 0 } : Room) s m args below meth c H locs 0 0 QQ (F0 m 0 ls []) from key s.heap [] hM
  intro H locs hM
  refine lv_aload_n hx hb dcX0_addStep_0 rfl (lv_at hl 0 rfl) ?_
  refine vgX0_163 hx hb hT hown hK hM hr0 hq dcX0_addStep_1 (fun v1 hq => ?_)
  refine lv_aload_n hx hb dcX0_addStep_4 rfl (lv_at hl 0 rfl) ?_
  refine vgX0_37 hx hb hT hown hK hM hr0 dcX0_addStep_5 ?_
  refine uw_alen cX_ok hx hb hK hM (cr_X0_10 hr0) dcX0_addStep_8 ?_
  refine lv_icmp_ge (tgt := 74) hx hb dcX0_addStep_9 (by decide) (fun hc => ?_) (fun hc => ?_)
  · have hq := tw_it hq hc
    exact cw_vret hx hb hr hlocks hM hq hQQ dcX0_addStep_74
  · have hq := tw_if hq hc
    refine lv_aload_n hx hb dcX0_addStep_12 rfl (lv_at hl 0 rfl) ?_
    refine vgX0_37 hx hb hT hown hK hM hr0 dcX0_addStep_13 ?_
    refine lv_aload_n hx hb dcX0_addStep_16 rfl (lv_at hl 0 rfl) ?_
    refine vgX0_163 hx hb hT hown hK hM hr0 hq dcX0_addStep_17 (fun v2 hq => ?_)
    refine lv_iload_n hx hb dcX0_addStep_20 rfl (lv_at hl 1 rfl) ?_
    refine uw_iast cX_ok hU hx hb hK hM (cr_X0_10 hr0) hq dcX0_addStep_21 (fun z3 H locs hM hq => ?_)
    refine lv_aload_n hx hb dcX0_addStep_22 rfl (lv_at hl 0 rfl) ?_
    refine vgX0_40 hx hb hT hown hK hM hr0 dcX0_addStep_23 ?_
    refine lv_aload_n hx hb dcX0_addStep_26 rfl (lv_at hl 0 rfl) ?_
    refine vgX0_163 hx hb hT hown hK hM hr0 hq dcX0_addStep_27 (fun v4 hq => ?_)
    refine lv_iload_n hx hb dcX0_addStep_30 rfl (lv_at hl 2 rfl) ?_
    refine uw_iast cX_ok hU hx hb hK hM (cr_X0_11 hr0) hq dcX0_addStep_31 (fun z5 H locs hM hq => ?_)
    refine lv_aload_n hx hb dcX0_addStep_32 rfl (lv_at hl 0 rfl) ?_
    refine vgX0_43 hx hb hT hown hK hM hr0 dcX0_addStep_33 ?_
    refine lv_aload_n hx hb dcX0_addStep_36 rfl (lv_at hl 0 rfl) ?_
    refine vgX0_163 hx hb hT hown hK hM hr0 hq dcX0_addStep_37 (fun v6 hq => ?_)
    refine lv_iload_n hx hb dcX0_addStep_40 rfl (lv_at hl 3 rfl) ?_
    refine uw_iast cX_ok hU hx hb hK hM (cr_X0_12 hr0) hq dcX0_addStep_41 (fun z7 H locs hM hq => ?_)
    refine lv_aload_n hx hb dcX0_addStep_42 rfl (lv_at hl 0 rfl) ?_
    refine vgX0_46 hx hb hT hown hK hM hr0 dcX0_addStep_43 ?_
    refine lv_aload_n hx hb dcX0_addStep_46 rfl (lv_at hl 0 rfl) ?_
    refine vgX0_163 hx hb hT hown hK hM hr0 hq dcX0_addStep_47 (fun v8 hq => ?_)
    refine lv_iload hx hb dcX0_addStep_50 (lv_at hl 4 rfl) ?_
    refine uw_iast cX_ok hU hx hb hK hM (cr_X0_13 hr0) hq dcX0_addStep_52 (fun z9 H locs hM hq => ?_)
    refine lv_aload_n hx hb dcX0_addStep_53 rfl (lv_at hl 0 rfl) ?_
    refine vgX0_49 hx hb hT hown hK hM hr0 dcX0_addStep_54 ?_
    refine lv_aload_n hx hb dcX0_addStep_57 rfl (lv_at hl 0 rfl) ?_
    refine vgX0_163 hx hb hT hown hK hM hr0 hq dcX0_addStep_58 (fun v10 hq => ?_)
    refine lv_iload hx hb dcX0_addStep_61 (lv_at hl 5 rfl) ?_
    refine uw_zast cX_ok hU hx hb hK hM (cr_X0_14 hr0) hq dcX0_addStep_63 (fun z11 H locs hM hq => ?_)
    refine lv_aload_n hx hb dcX0_addStep_64 rfl (lv_at hl 0 rfl) ?_
    refine lv_dup hx hb dcX0_addStep_65 rfl ?_
    refine vgX0_163 hx hb hT hown hK hM hr0 hq dcX0_addStep_66 (fun v12 hq => ?_)
    refine lv_iconst (v := 1) hx hb dcX0_addStep_69 (by decide) ?_
    refine lv_iadd hx hb dcX0_addStep_70 ?_
    refine vpX0_163 hx hb hT hown hK hM hU hr0 hq dcX0_addStep_71 (fun z13 H locs hM hq => ?_)
    exact cw_vret hx hb hr hlocks hM hq hQQ dcX0_addStep_74
