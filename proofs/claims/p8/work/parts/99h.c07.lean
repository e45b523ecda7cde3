theorem dcX9_take_0 : decode cX9_take 0 = .ok (.bipush 24, 2) := dw_at cX9_take_k0 (p := 0) rfl (by decide +kernel)
theorem dcX9_take_2 : decode cX9_take 2 = .ok (.istore_n 2, 1) := dw_at cX9_take_k0 (p := 2) rfl (by decide +kernel)
theorem dcX9_take_3 : decode cX9_take 3 = .ok (.iload_n 2, 1) := dw_at cX9_take_k0 (p := 3) rfl (by decide +kernel)
theorem dcX9_take_4 : decode cX9_take 4 = .ok (.ifCond .lt 42, 3) := dw_at cX9_take_k0 (p := 4) rfl (by decide +kernel)
theorem dcX9_take_7 : decode cX9_take 7 = .ok (.aload_n 0, 1) := dw_at cX9_take_k0 (p := 7) rfl (by decide +kernel)
theorem dcX9_take_8 : decode cX9_take 8 = .ok (.getfield 22, 3) := dw_at cX9_take_k0 (p := 8) rfl (by decide +kernel)
theorem dcX9_take_11 : decode cX9_take 11 = .ok (.sipush 400, 3) := dw_at cX9_take_k0 (p := 11) rfl (by decide +kernel)
theorem dcX9_take_14 : decode cX9_take 14 = .ok (.if_icmp .ge 32, 3) := dw_at cX9_take_k0 (p := 14) rfl (by decide +kernel)
theorem dcX9_take_17 : decode cX9_take 17 = .ok (.aload_n 0, 1) := dw_at cX9_take_k0 (p := 17) rfl (by decide +kernel)
theorem dcX9_take_18 : decode cX9_take 18 = .ok (.getfield 9, 3) := dw_at cX9_take_k0 (p := 18) rfl (by decide +kernel)
theorem dcX9_take_21 : decode cX9_take 21 = .ok (.aload_n 0, 1) := dw_at cX9_take_k0 (p := 21) rfl (by decide +kernel)
theorem dcX9_take_22 : decode cX9_take 22 = .ok (.getfield 22, 3) := dw_at cX9_take_k0 (p := 22) rfl (by decide +kernel)
theorem dcX9_take_25 : decode cX9_take 25 = .ok (.iload_n 1, 1) := dw_at cX9_take_k1 (p := 0) rfl (by decide +kernel)
theorem dcX9_take_26 : decode cX9_take 26 = .ok (.iload_n 2, 1) := dw_at cX9_take_k1 (p := 1) rfl (by decide +kernel)
theorem dcX9_take_27 : decode cX9_take 27 = .ok (.ishr, 1) := dw_at cX9_take_k1 (p := 2) rfl (by decide +kernel)
theorem dcX9_take_28 : decode cX9_take 28 = .ok (.i2b, 1) := dw_at cX9_take_k1 (p := 3) rfl (by decide +kernel)
theorem dcX9_take_29 : decode cX9_take 29 = .ok (.bastore, 1) := dw_at cX9_take_k1 (p := 4) rfl (by decide +kernel)
theorem dcX9_take_30 : decode cX9_take 30 = .ok (.aload_n 0, 1) := dw_at cX9_take_k1 (p := 5) rfl (by decide +kernel)
theorem dcX9_take_31 : decode cX9_take 31 = .ok (.dup, 1) := dw_at cX9_take_k1 (p := 6) rfl (by decide +kernel)
theorem dcX9_take_32 : decode cX9_take 32 = .ok (.getfield 22, 3) := dw_at cX9_take_k1 (p := 7) rfl (by decide +kernel)
theorem dcX9_take_35 : decode cX9_take 35 = .ok (.iconst 1, 1) := dw_at cX9_take_k1 (p := 10) rfl (by decide +kernel)
theorem dcX9_take_36 : decode cX9_take 36 = .ok (.iadd, 1) := dw_at cX9_take_k1 (p := 11) rfl (by decide +kernel)
theorem dcX9_take_37 : decode cX9_take 37 = .ok (.putfield 22, 3) := dw_at cX9_take_k1 (p := 12) rfl (by decide +kernel)
theorem dcX9_take_40 : decode cX9_take 40 = .ok (.iinc 2 (-8), 3) := dw_at cX9_take_k1 (p := 15) rfl (by decide +kernel)
theorem dcX9_take_43 : decode cX9_take 43 = .ok (.goto (-40), 3) := dw_at cX9_take_k1 (p := 18) rfl (by decide +kernel)
theorem dcX9_take_46 : decode cX9_take 46 = .ok (.return_, 1) := dw_at cX9_take_k1 (p := 21) rfl (by decide +kernel)
def cm_X9_take_0 (vl : Nat → Nat) (K : Nat) (go : Nat → Int32 → Int32 → Nat → ow_MS → Option ow_MS) (x1 : Int32) (x2 : Int32) (r0 : Nat) (z : ow_MS) : Option ow_MS :=
 go 1 x1 24 r0 z
def cm_X9_take_1 (vl : Nat → Nat) (K : Nat) (go : Nat → Int32 → Int32 → Nat → ow_MS → Option ow_MS) (x1 : Int32) (x2 : Int32) (r0 : Nat) (z : ow_MS) : Option ow_MS :=
 (if x2 < 0 then some z
 else rdF z (r0 + 1) fun v1 => (if 400 ≤ v1 then some z
 else rdF z (r0 + 1) fun v2 => ctB (cX vl) z (r0 + 2) v2 (((x1 : Int32) >>> ((x2 : Int32) &&& 31)).toInt8.toInt32) fun z3 => rdF z3 (r0 + 1) fun v4 => wrF z3 (r0 + 1) (v4 + 1) fun z5 => go 1 x1 (x2 + (-8)) r0 z5))
def cb_X9_take (vl : Nat → Nat) (K : Nat) (go : Nat → Int32 → Int32 → Nat → ow_MS → Option ow_MS) (L : Nat) (x1 : Int32) (x2 : Int32) (r0 : Nat) (z : ow_MS) : Option ow_MS := match L with
  | 0 => cm_X9_take_0 vl K go x1 x2 r0 z
  | 1 => cm_X9_take_1 vl K go x1 x2 r0 z
  | _ => none
def c_X9_take (vl : Nat → Nat) (K : Nat) : Nat → Nat → Int32 → Int32 → Nat → ow_MS → Option ow_MS
  | 0 => fun _ _ _ _ _ => none
  | k + 1 => cb_X9_take vl K (c_X9_take vl K k)
def ce_X9_take (vl : Nat → Nat) (K : Nat) (r0 : Nat) (x1 : Int32) (z : ow_MS) : Option ow_MS := c_X9_take vl K K 0 x1 0 r0 z
abbrev wc_X9_take : List Cond := .code yX9_take cX9_take 3 none :: wC
theorem cdd_X9_take : yX9_take.cls = RX9 ∧ yX9_take.cls ≠ "java/lang/invoke/MethodHandle" ∧ yX9_take.cls ≠ "java/lang/invoke/VarHandle" ∧ (parseMethodDescriptor yX9_take.desc).map (fun d => d.parameters.length) = some 1 := by decide +kernel
set_option maxHeartbeats 4000000 in
set_option maxRecDepth 100000 in
theorem kc_X9_take (l : Launch) (D : va_G) (q : Nat → ClassId) (vl u : Nat → Nat) (hU0 : tw_inj (cX vl) u) (K : Nat) (r0 : Nat) (x1 : Int32) (hr0 : cw_X9 r0) (z z1 : ow_MS) (hq : ce_X9_take vl K r0 x1 z = some z1) : Met l yX9_take wc_X9_take ({ frames := 0, cells := 0, slots := 0, locals := 0 } : Room) (va_Pc [.ref (u r0), .int x1] (cw_pre D q vl u z)) (va_Qv (fun (_ : Unit) => True) (fun _ t => va_P D vwCl (uw (cX vl) q u z1) t.heap) (tw_A (cX vl) u)) 0 0 (tw_A (cX vl) u) := by
  refine Met.ofW (cc := cX9_take) (maxL := 3) (ret := none) (by decide) rfl ?_
  intro p e s m args below meth c s₁ B hml hv
  obtain ⟨rfl, hP, hK⟩ := hv
  have hx := B.exec
  have hb := B.bytes
  have hr := B.returns
  have hts := atoms_spec (ws := wc_X9_take) B.pre
  have hT : ∀ w ∈ wC, w.before ([.ref (u r0), .int x1] : List Value).toArray s = true := fun w h => hts w (List.mem_cons_of_mem _ h)
  have hown : s.vm.findClass RX9 = some m.cls := findClass_of_methodNamed B.named
  have hlocks := B.notSynchronized
  have hU : uw_inj (cX vl) u (tw_A (cX vl) u) := ⟨hU0, fun h hh => ⟨h, hh, rfl⟩⟩
  have hM : uw_M D vwCl (cX vl) q (tw_A (cX vl) u) s.heap u z s.heap [] := ⟨hP, va_S.rf⟩
  have hl := lv_entry ([.ref (u r0), .int x1]) (n := 3) (Nat.le_of_ble_eq_true rfl)
  rw [lg_entry_eq]
  generalize (lg_sl ([.ref (u r0), .int x1]) ++ List.replicate (3 - (lg_sl ([.ref (u r0), .int x1])).length) Slot.unset).toArray = ls at hl ⊢
  have hl : lv_has ls 3 [(0, .ref (u r0)), (1, .int x1)] := hl
  refine ow_named (fun QQ hQQ => ?_)
  generalize ([.ref (u r0), .int x1] : List Value).toArray = args at hts hT hQQ ⊢
  have key : ∀ k : Nat, (∀ (x1 : Int32) (x2 : Int32) (r0 : Nat) (z : ow_MS) (H : Heap) (locs : List Loc) (ls : Array Slot), cw_X9 r0 → uw_M D vwCl (cX vl) q (tw_A (cX vl) u) s.heap u z H locs → lv_has ls 3 [(0, .ref (u r0)), (1, .int x1)] → c_X9_take vl K k 0 x1 x2 r0 z = some z1 → W p l e ({ frames := 0, cells := 0, slots := 0, locals := 0 } : Room) s m args below meth c H locs 0 0 QQ (F0 m 0 ls [])) ∧ (∀ (x1 : Int32) (x2 : Int32) (r0 : Nat) (z : ow_MS) (H : Heap) (locs : List Loc) (ls : Array Slot), cw_X9 r0 → uw_M D vwCl (cX vl) q (tw_A (cX vl) u) s.heap u z H locs → lv_has ls 3 [(0, .ref (u r0)), (1, .int x1), (2, .int x2)] → c_X9_take vl K k 1 x1 x2 r0 z = some z1 → W p l e ({ frames := 0, cells := 0, slots := 0, locals := 0 } : Room) s m args below meth c H locs 0 0 QQ (F0 m 3 ls [])) := by
    intro k
    induction k with
    | zero => exact ⟨fun _ _ _ _ _ _ _ _ _ _ hq => cw_no hq, fun _ _ _ _ _ _ _ _ _ _ hq => cw_no hq⟩
    | succ k ih =>
      obtain ⟨ih_0, ih_1⟩ := ih
      refine ⟨?_, ?_⟩
      · intro x1 x2 r0 z H locs ls hr0 hM hl hq
        have hq : cm_X9_take_0 vl K (c_X9_take vl K k) x1 x2 r0 z = some z1 := hq
        unfold cm_X9_take_0 at hq
        refine lv_bipush (v := 24) hx hb dcX9_take_0 (by decide) ?_
        refine lv_istore_n (lv' := [(2, .int 24), (0, .ref (u r0)), (1, .int x1)]) hx hb dcX9_take_2 rfl hl (by decide) rfl (fun ls hl => ?_)
        exact ih_1 x1 24 r0 z H locs ls hr0 hM (lv_sub hl [1, 2, 0] rfl) hq
      · intro x1 x2 r0 z H locs ls hr0 hM hl hq
        have hq : cm_X9_take_1 vl K (c_X9_take vl K k) x1 x2 r0 z = some z1 := hq
        unfold cm_X9_take_1 at hq
        refine lv_iload_n hx hb dcX9_take_3 rfl (lv_at hl 2 rfl) ?_
        refine lv_if_lt (tgt := 46) hx hb dcX9_take_4 (by decide) (fun hc => ?_) (fun hc => ?_)
        · have hq := tw_it hq hc
          exact cw_vret hx hb hr hlocks hM hq hQQ dcX9_take_46
        · have hq := tw_if hq hc
          refine lv_aload_n hx hb dcX9_take_7 rfl (lv_at hl 0 rfl) ?_
          refine vgX9_22 hx hb hT hown hK hM hr0 hq dcX9_take_8 (fun v1 hq => ?_)
          refine lv_sipush (v := 400) hx hb dcX9_take_11 (by decide) ?_
          refine lv_icmp_ge (tgt := 46) hx hb dcX9_take_14 (by decide) (fun hc => ?_) (fun hc => ?_)
          · have hq := tw_it hq hc
            exact cw_vret hx hb hr hlocks hM hq hQQ dcX9_take_46
          · have hq := tw_if hq hc
            refine lv_aload_n hx hb dcX9_take_17 rfl (lv_at hl 0 rfl) ?_
            refine vgX9_9 hx hb hT hown hK hM hr0 dcX9_take_18 ?_
            refine lv_aload_n hx hb dcX9_take_21 rfl (lv_at hl 0 rfl) ?_
            refine vgX9_22 hx hb hT hown hK hM hr0 hq dcX9_take_22 (fun v2 hq => ?_)
            refine lv_iload_n hx hb dcX9_take_25 rfl (lv_at hl 1 rfl) ?_
            refine lv_iload_n hx hb dcX9_take_26 rfl (lv_at hl 2 rfl) ?_
            refine lv_ishr hx hb dcX9_take_27 ?_
            refine lv_i2b hx hb dcX9_take_28 rfl ?_
            refine uw_bast cX_ok hU hx hb hK hM (cr_X9_1 hr0) hq dcX9_take_29 (fun z3 H locs hM hq => ?_)
            refine lv_aload_n hx hb dcX9_take_30 rfl (lv_at hl 0 rfl) ?_
            refine lv_dup hx hb dcX9_take_31 rfl ?_
            refine vgX9_22 hx hb hT hown hK hM hr0 hq dcX9_take_32 (fun v4 hq => ?_)
            refine lv_iconst (v := 1) hx hb dcX9_take_35 (by decide) ?_
            refine lv_iadd hx hb dcX9_take_36 ?_
            refine vpX9_22 hx hb hT hown hK hM hU hr0 hq dcX9_take_37 (fun z5 H locs hM hq => ?_)
            refine lv_iinc (v := (x2 + (-8))) (lv' := [(2, .int (x2 + (-8))), (0, .ref (u r0)), (1, .int x1)]) hx hb dcX9_take_40 hl (k := 2) rfl rfl (by decide) rfl (fun ls hl => ?_)
            refine lv_goto (tgt := 3) hx hb dcX9_take_43 (by decide) ?_
            exact ih_1 x1 (x2 + (-8)) r0 z5 H locs ls hr0 hM (lv_sub hl [1, 2, 0] rfl) hq
  exact (key K).1 x1 0 r0 z s.heap [] ls hr0 hM (lv_sub hl [0, 1] rfl) hq
theorem dcX9_enter_0 : decode cX9_enter 0 = .ok (.aload_n 0, 1) := dw_at cX9_enter_k0 (p := 0) rfl (by decide +kernel)
theorem dcX9_enter_1 : decode cX9_enter 1 = .ok (.getfield 9, 3) := dw_at cX9_enter_k0 (p := 1) rfl (by decide +kernel)
theorem dcX9_enter_4 : decode cX9_enter 4 = .ok (.aload_n 0, 1) := dw_at cX9_enter_k0 (p := 4) rfl (by decide +kernel)
theorem dcX9_enter_5 : decode cX9_enter 5 = .ok (.getfield 37, 3) := dw_at cX9_enter_k0 (p := 5) rfl (by decide +kernel)
theorem dcX9_enter_8 : decode cX9_enter 8 = .ok (.iconst 1, 1) := dw_at cX9_enter_k0 (p := 8) rfl (by decide +kernel)
theorem dcX9_enter_9 : decode cX9_enter 9 = .ok (.isub, 1) := dw_at cX9_enter_k0 (p := 9) rfl (by decide +kernel)
theorem dcX9_enter_10 : decode cX9_enter 10 = .ok (.baload, 1) := dw_at cX9_enter_k0 (p := 10) rfl (by decide +kernel)
theorem dcX9_enter_11 : decode cX9_enter 11 = .ok (.bipush 43, 2) := dw_at cX9_enter_k0 (p := 11) rfl (by decide +kernel)
theorem dcX9_enter_13 : decode cX9_enter 13 = .ok (.if_icmp .ne 7, 3) := dw_at cX9_enter_k0 (p := 13) rfl (by decide +kernel)
theorem dcX9_enter_16 : decode cX9_enter 16 = .ok (.iconst 1, 1) := dw_at cX9_enter_k0 (p := 16) rfl (by decide +kernel)
theorem dcX9_enter_17 : decode cX9_enter 17 = .ok (.goto 4, 3) := dw_at cX9_enter_k0 (p := 17) rfl (by decide +kernel)
theorem dcX9_enter_20 : decode cX9_enter 20 = .ok (.iconst (-1), 1) := dw_at cX9_enter_k0 (p := 20) rfl (by decide +kernel)
theorem dcX9_enter_21 : decode cX9_enter 21 = .ok (.istore_n 3, 1) := dw_at cX9_enter_k0 (p := 21) rfl (by decide +kernel)
theorem dcX9_enter_22 : decode cX9_enter 22 = .ok (.aload_n 0, 1) := dw_at cX9_enter_k0 (p := 22) rfl (by decide +kernel)
theorem dcX9_enter_23 : decode cX9_enter 23 = .ok (.getfield 15, 3) := dw_at cX9_enter_k0 (p := 23) rfl (by decide +kernel)
theorem dcX9_enter_26 : decode cX9_enter 26 = .ok (.aload_n 0, 1) := dw_at cX9_enter_k1 (p := 0) rfl (by decide +kernel)
theorem dcX9_enter_27 : decode cX9_enter 27 = .ok (.getfield 63, 3) := dw_at cX9_enter_k1 (p := 1) rfl (by decide +kernel)
theorem dcX9_enter_30 : decode cX9_enter 30 = .ok (.iaload, 1) := dw_at cX9_enter_k1 (p := 4) rfl (by decide +kernel)
theorem dcX9_enter_31 : decode cX9_enter 31 = .ok (.istore 4, 2) := dw_at cX9_enter_k1 (p := 5) rfl (by decide +kernel)
theorem dcX9_enter_33 : decode cX9_enter 33 = .ok (.iload 4, 2) := dw_at cX9_enter_k1 (p := 7) rfl (by decide +kernel)
theorem dcX9_enter_35 : decode cX9_enter 35 = .ok (.iconst (-1), 1) := dw_at cX9_enter_k1 (p := 9) rfl (by decide +kernel)
theorem dcX9_enter_36 : decode cX9_enter 36 = .ok (.if_icmp .ne 49, 3) := dw_at cX9_enter_k1 (p := 10) rfl (by decide +kernel)
theorem dcX9_enter_39 : decode cX9_enter 39 = .ok (.aload_n 1, 1) := dw_at cX9_enter_k1 (p := 13) rfl (by decide +kernel)
theorem dcX9_enter_40 : decode cX9_enter 40 = .ok (.getfield 66, 3) := dw_at cX9_enter_k1 (p := 14) rfl (by decide +kernel)
theorem dcX9_enter_43 : decode cX9_enter 43 = .ok (.bipush 12, 2) := dw_at cX9_enter_k1 (p := 17) rfl (by decide +kernel)
theorem dcX9_enter_45 : decode cX9_enter 45 = .ok (.if_icmp .lt 5, 3) := dw_at cX9_enter_k1 (p := 19) rfl (by decide +kernel)
theorem dcX9_enter_48 : decode cX9_enter 48 = .ok (.iconst (-1), 1) := dw_at cX9_enter_k1 (p := 22) rfl (by decide +kernel)
theorem dcX9_enter_49 : decode cX9_enter 49 = .ok (.ireturn, 1) := dw_at cX9_enter_k1 (p := 23) rfl (by decide +kernel)
theorem dcX9_enter_50 : decode cX9_enter 50 = .ok (.aload_n 1, 1) := dw_at cX9_enter_k2 (p := 0) rfl (by decide +kernel)
theorem dcX9_enter_51 : decode cX9_enter 51 = .ok (.getfield 66, 3) := dw_at cX9_enter_k2 (p := 1) rfl (by decide +kernel)
theorem dcX9_enter_54 : decode cX9_enter 54 = .ok (.istore 4, 2) := dw_at cX9_enter_k2 (p := 4) rfl (by decide +kernel)
theorem dcX9_enter_56 : decode cX9_enter 56 = .ok (.aload_n 1, 1) := dw_at cX9_enter_k2 (p := 6) rfl (by decide +kernel)
theorem dcX9_enter_57 : decode cX9_enter 57 = .ok (.dup, 1) := dw_at cX9_enter_k2 (p := 7) rfl (by decide +kernel)
theorem dcX9_enter_58 : decode cX9_enter 58 = .ok (.getfield 66, 3) := dw_at cX9_enter_k2 (p := 8) rfl (by decide +kernel)
theorem dcX9_enter_61 : decode cX9_enter 61 = .ok (.iconst 1, 1) := dw_at cX9_enter_k2 (p := 11) rfl (by decide +kernel)
theorem dcX9_enter_62 : decode cX9_enter 62 = .ok (.iadd, 1) := dw_at cX9_enter_k2 (p := 12) rfl (by decide +kernel)
theorem dcX9_enter_63 : decode cX9_enter 63 = .ok (.putfield 66, 3) := dw_at cX9_enter_k2 (p := 13) rfl (by decide +kernel)
theorem dcX9_enter_66 : decode cX9_enter 66 = .ok (.aload_n 0, 1) := dw_at cX9_enter_k2 (p := 16) rfl (by decide +kernel)
theorem dcX9_enter_67 : decode cX9_enter 67 = .ok (.getfield 15, 3) := dw_at cX9_enter_k2 (p := 17) rfl (by decide +kernel)
theorem dcX9_enter_70 : decode cX9_enter 70 = .ok (.aload_n 0, 1) := dw_at cX9_enter_k2 (p := 20) rfl (by decide +kernel)
theorem dcX9_enter_71 : decode cX9_enter 71 = .ok (.getfield 63, 3) := dw_at cX9_enter_k2 (p := 21) rfl (by decide +kernel)
theorem dcX9_enter_74 : decode cX9_enter 74 = .ok (.iload 4, 2) := dw_at cX9_enter_k3 (p := 0) rfl (by decide +kernel)
theorem dcX9_enter_76 : decode cX9_enter 76 = .ok (.iastore, 1) := dw_at cX9_enter_k3 (p := 2) rfl (by decide +kernel)
theorem dcX9_enter_77 : decode cX9_enter 77 = .ok (.aload_n 1, 1) := dw_at cX9_enter_k3 (p := 3) rfl (by decide +kernel)
theorem dcX9_enter_78 : decode cX9_enter 78 = .ok (.getfield 69, 3) := dw_at cX9_enter_k3 (p := 4) rfl (by decide +kernel)
theorem dcX9_enter_81 : decode cX9_enter 81 = .ok (.iload 4, 2) := dw_at cX9_enter_k3 (p := 7) rfl (by decide +kernel)
theorem dcX9_enter_83 : decode cX9_enter 83 = .ok (.iload_n 3, 1) := dw_at cX9_enter_k3 (p := 9) rfl (by decide +kernel)
theorem dcX9_enter_84 : decode cX9_enter 84 = .ok (.iastore, 1) := dw_at cX9_enter_k3 (p := 10) rfl (by decide +kernel)
theorem dcX9_enter_85 : decode cX9_enter 85 = .ok (.iconst 2, 1) := dw_at cX9_enter_k3 (p := 11) rfl (by decide +kernel)
theorem dcX9_enter_86 : decode cX9_enter 86 = .ok (.iload 4, 2) := dw_at cX9_enter_k3 (p := 12) rfl (by decide +kernel)
theorem dcX9_enter_88 : decode cX9_enter 88 = .ok (.imul, 1) := dw_at cX9_enter_k3 (p := 14) rfl (by decide +kernel)
theorem dcX9_enter_89 : decode cX9_enter 89 = .ok (.aload_n 0, 1) := dw_at cX9_enter_k3 (p := 15) rfl (by decide +kernel)
theorem dcX9_enter_90 : decode cX9_enter 90 = .ok (.getfield 9, 3) := dw_at cX9_enter_k3 (p := 16) rfl (by decide +kernel)
theorem dcX9_enter_93 : decode cX9_enter 93 = .ok (.iload_n 2, 1) := dw_at cX9_enter_k3 (p := 19) rfl (by decide +kernel)
theorem dcX9_enter_94 : decode cX9_enter 94 = .ok (.baload, 1) := dw_at cX9_enter_k3 (p := 20) rfl (by decide +kernel)
theorem dcX9_enter_95 : decode cX9_enter 95 = .ok (.bipush 117, 2) := dw_at cX9_enter_k3 (p := 21) rfl (by decide +kernel)
theorem dcX9_enter_97 : decode cX9_enter 97 = .ok (.if_icmp .ne 7, 3) := dw_at cX9_enter_k3 (p := 23) rfl (by decide +kernel)
theorem dcX9_enter_100 : decode cX9_enter 100 = .ok (.iconst 1, 1) := dw_at cX9_enter_k4 (p := 0) rfl (by decide +kernel)
theorem dcX9_enter_101 : decode cX9_enter 101 = .ok (.goto 4, 3) := dw_at cX9_enter_k4 (p := 1) rfl (by decide +kernel)
theorem dcX9_enter_104 : decode cX9_enter 104 = .ok (.iconst 0, 1) := dw_at cX9_enter_k4 (p := 4) rfl (by decide +kernel)
theorem dcX9_enter_105 : decode cX9_enter 105 = .ok (.iadd, 1) := dw_at cX9_enter_k4 (p := 5) rfl (by decide +kernel)
theorem dcX9_enter_106 : decode cX9_enter 106 = .ok (.istore 5, 2) := dw_at cX9_enter_k4 (p := 6) rfl (by decide +kernel)
theorem dcX9_enter_108 : decode cX9_enter 108 = .ok (.aload_n 0, 1) := dw_at cX9_enter_k4 (p := 8) rfl (by decide +kernel)
theorem dcX9_enter_109 : decode cX9_enter 109 = .ok (.getfield 19, 3) := dw_at cX9_enter_k4 (p := 9) rfl (by decide +kernel)
theorem dcX9_enter_112 : decode cX9_enter 112 = .ok (.iload 5, 2) := dw_at cX9_enter_k4 (p := 12) rfl (by decide +kernel)
theorem dcX9_enter_114 : decode cX9_enter 114 = .ok (.iaload, 1) := dw_at cX9_enter_k4 (p := 14) rfl (by decide +kernel)
theorem dcX9_enter_115 : decode cX9_enter 115 = .ok (.iconst (-1), 1) := dw_at cX9_enter_k4 (p := 15) rfl (by decide +kernel)
theorem dcX9_enter_116 : decode cX9_enter 116 = .ok (.if_icmp .ne 14, 3) := dw_at cX9_enter_k4 (p := 16) rfl (by decide +kernel)
theorem dcX9_enter_119 : decode cX9_enter 119 = .ok (.aload_n 1, 1) := dw_at cX9_enter_k4 (p := 19) rfl (by decide +kernel)
theorem dcX9_enter_120 : decode cX9_enter 120 = .ok (.getfield 69, 3) := dw_at cX9_enter_k4 (p := 20) rfl (by decide +kernel)
theorem dcX9_enter_123 : decode cX9_enter 123 = .ok (.iload 4, 2) := dw_at cX9_enter_k4 (p := 23) rfl (by decide +kernel)
theorem dcX9_enter_125 : decode cX9_enter 125 = .ok (.iaload, 1) := dw_at cX9_enter_k5 (p := 0) rfl (by decide +kernel)
theorem dcX9_enter_126 : decode cX9_enter 126 = .ok (.iload_n 3, 1) := dw_at cX9_enter_k5 (p := 1) rfl (by decide +kernel)
theorem dcX9_enter_127 : decode cX9_enter 127 = .ok (.if_icmp .eq 5, 3) := dw_at cX9_enter_k5 (p := 2) rfl (by decide +kernel)
theorem dcX9_enter_130 : decode cX9_enter 130 = .ok (.iconst (-1), 1) := dw_at cX9_enter_k5 (p := 5) rfl (by decide +kernel)
theorem dcX9_enter_131 : decode cX9_enter 131 = .ok (.ireturn, 1) := dw_at cX9_enter_k5 (p := 6) rfl (by decide +kernel)
theorem dcX9_enter_132 : decode cX9_enter 132 = .ok (.aload_n 0, 1) := dw_at cX9_enter_k5 (p := 7) rfl (by decide +kernel)
theorem dcX9_enter_133 : decode cX9_enter 133 = .ok (.getfield 19, 3) := dw_at cX9_enter_k5 (p := 8) rfl (by decide +kernel)
theorem dcX9_enter_136 : decode cX9_enter 136 = .ok (.iload 5, 2) := dw_at cX9_enter_k5 (p := 11) rfl (by decide +kernel)
theorem dcX9_enter_138 : decode cX9_enter 138 = .ok (.iload_n 2, 1) := dw_at cX9_enter_k5 (p := 13) rfl (by decide +kernel)
theorem dcX9_enter_139 : decode cX9_enter 139 = .ok (.iastore, 1) := dw_at cX9_enter_k5 (p := 14) rfl (by decide +kernel)
theorem dcX9_enter_140 : decode cX9_enter 140 = .ok (.iload 5, 2) := dw_at cX9_enter_k5 (p := 15) rfl (by decide +kernel)
theorem dcX9_enter_142 : decode cX9_enter 142 = .ok (.ireturn, 1) := dw_at cX9_enter_k5 (p := 17) rfl (by decide +kernel)
def cm_X9_enter_0 (vl : Nat → Nat) (K : Nat) (go : Nat → Int32 → Int32 → Int32 → Nat → Nat → Int32 → Int32 → ow_MS → Option (Int32 × ow_MS)) (x2 : Int32) (x3 : Int32) (x4 : Int32) (r0 : Nat) (r1 : Nat) (t0 : Int32) (t1 : Int32) (z : ow_MS) : Option (Int32 × ow_MS) :=
 rdF z (r0 + 5) fun v1 => crI (cX vl) z (r0 + 2) (v1 - 1) fun v2 => (if v2 = 43 then go 1 x2 0 0 r0 r1 1 0 z
 else go 1 x2 0 0 r0 r1 (-1) 0 z)
def cm_X9_enter_1 (vl : Nat → Nat) (K : Nat) (go : Nat → Int32 → Int32 → Int32 → Nat → Nat → Int32 → Int32 → ow_MS → Option (Int32 × ow_MS)) (x2 : Int32) (x3 : Int32) (x4 : Int32) (r0 : Nat) (r1 : Nat) (t0 : Int32) (t1 : Int32) (z : ow_MS) : Option (Int32 × ow_MS) :=
 rdF z (r0 + 6) fun v3 => crI (cX vl) z (r0 + 3) v3 fun v4 => (if v4 = (-1) then rdF z (r1 + 8) fun v5 => (if v5 < 12 then rdF z (r1 + 8) fun v6 => rdF z (r1 + 8) fun v7 => wrF z (r1 + 8) (v7 + 1) fun z8 => rdF z8 (r0 + 6) fun v9 => ctI (cX vl) z8 (r0 + 3) v9 v6 fun z10 => ctI (cX vl) z10 (r1 + 3) v6 t0 fun z11 => go 2 x2 t0 v6 r0 r1 0 0 z11
 else some ((-1), z))
 else go 2 x2 t0 v4 r0 r1 0 0 z)
def cm_X9_enter_2 (vl : Nat → Nat) (K : Nat) (go : Nat → Int32 → Int32 → Int32 → Nat → Nat → Int32 → Int32 → ow_MS → Option (Int32 × ow_MS)) (x2 : Int32) (x3 : Int32) (x4 : Int32) (r0 : Nat) (r1 : Nat) (t0 : Int32) (t1 : Int32) (z : ow_MS) : Option (Int32 × ow_MS) :=
 crI (cX vl) z (r0 + 2) x2 fun v12 => (if v12 = 117 then go 3 x2 x3 x4 r0 r1 1 (2 * x4) z
 else go 3 x2 x3 x4 r0 r1 0 (2 * x4) z)
def cm_X9_enter_3 (vl : Nat → Nat) (K : Nat) (go : Nat → Int32 → Int32 → Int32 → Nat → Nat → Int32 → Int32 → ow_MS → Option (Int32 × ow_MS)) (x2 : Int32) (x3 : Int32) (x4 : Int32) (r0 : Nat) (r1 : Nat) (t0 : Int32) (t1 : Int32) (z : ow_MS) : Option (Int32 × ow_MS) :=
 crI (cX vl) z (r0 + 4) (t1 + t0) fun v13 => (if v13 = (-1) then crI (cX vl) z (r1 + 3) x4 fun v14 => (if v14 = x3 then ctI (cX vl) z (r0 + 4) (t1 + t0) x2 fun z15 => some ((t1 + t0), z15)
 else some ((-1), z))
 else some ((-1), z))
def cb_X9_enter (vl : Nat → Nat) (K : Nat) (go : Nat → Int32 → Int32 → Int32 → Nat → Nat → Int32 → Int32 → ow_MS → Option (Int32 × ow_MS)) (L : Nat) (x2 : Int32) (x3 : Int32) (x4 : Int32) (r0 : Nat) (r1 : Nat) (t0 : Int32) (t1 : Int32) (z : ow_MS) : Option (Int32 × ow_MS) := match L with
  | 0 => cm_X9_enter_0 vl K go x2 x3 x4 r0 r1 t0 t1 z
  | 1 => cm_X9_enter_1 vl K go x2 x3 x4 r0 r1 t0 t1 z
  | 2 => cm_X9_enter_2 vl K go x2 x3 x4 r0 r1 t0 t1 z
  | 3 => cm_X9_enter_3 vl K go x2 x3 x4 r0 r1 t0 t1 z
  | _ => none
def c_X9_enter (vl : Nat → Nat) (K : Nat) : Nat → Nat → Int32 → Int32 → Int32 → Nat → Nat → Int32 → Int32 → ow_MS → Option (Int32 × ow_MS)
  | 0 => fun _ _ _ _ _ _ _ _ _ => none
  | k + 1 => cb_X9_enter vl K (c_X9_enter vl K k)
def ce_X9_enter (vl : Nat → Nat) (K : Nat) (r0 : Nat) (r1 : Nat) (x2 : Int32) (z : ow_MS) : Option (Int32 × ow_MS) := c_X9_enter vl K K 0 x2 0 0 r0 r1 0 0 z
abbrev wc_X9_enter : List Cond := .code yX9_enter cX9_enter 6 (some .int) :: wC
theorem cdd_X9_enter : yX9_enter.cls = RX9 ∧ yX9_enter.cls ≠ "java/lang/invoke/MethodHandle" ∧ yX9_enter.cls ≠ "java/lang/invoke/VarHandle" ∧ (parseMethodDescriptor yX9_enter.desc).map (fun d => d.parameters.length) = some 2 := by decide +kernel
set_option maxHeartbeats 4000000 in
set_option maxRecDepth 100000 in
theorem kc_X9_enter (l : Launch) (D : va_G) (q : Nat → ClassId) (vl u : Nat → Nat) (hU0 : tw_inj (cX vl) u) (K : Nat) (r0 : Nat) (r1 : Nat) (x2 : Int32) (hr0 : cw_X9 r0) (hr1 : cw_X7 r1) (z z1 : ow_MS) (r : Int32) (hq : ce_X9_enter vl K r0 r1 x2 z = some (r, z1)) : Met l yX9_enter wc_X9_enter ({ frames := 0, cells := 0, slots := 0, locals := 0 } : Room) (va_Pc [.ref (u r0), .ref (u r1), .int x2] (cw_pre D q vl u z)) (va_Qi (fun x (_ : Unit) => x = r) (fun _ t => va_P D vwCl (uw (cX vl) q u z1) t.heap) (tw_A (cX vl) u)) 0 0 (tw_A (cX vl) u) := by
  refine Met.ofW (cc := cX9_enter) (maxL := 6) (ret := (some .int)) (by decide) rfl ?_
  intro p e s m args below meth c s₁ B hml hv
  obtain ⟨rfl, hP, hK⟩ := hv
  have hx := B.exec
  have hb := B.bytes
  have hr := B.returns
  have hts := atoms_spec (ws := wc_X9_enter) B.pre
  have hT : ∀ w ∈ wC, w.before ([.ref (u r0), .ref (u r1), .int x2] : List Value).toArray s = true := fun w h => hts w (List.mem_cons_of_mem _ h)
  have hown : s.vm.findClass RX9 = some m.cls := findClass_of_methodNamed B.named
  have hlocks := B.notSynchronized
  have hU : uw_inj (cX vl) u (tw_A (cX vl) u) := ⟨hU0, fun h hh => ⟨h, hh, rfl⟩⟩
  have hM : uw_M D vwCl (cX vl) q (tw_A (cX vl) u) s.heap u z s.heap [] := ⟨hP, va_S.rf⟩
  have hl := lv_entry ([.ref (u r0), .ref (u r1), .int x2]) (n := 6) (Nat.le_of_ble_eq_true rfl)
  rw [lg_entry_eq]
  generalize (lg_sl ([.ref (u r0), .ref (u r1), .int x2]) ++ List.replicate (6 - (lg_sl ([.ref (u r0), .ref (u r1), .int x2])).length) Slot.unset).toArray = ls at hl ⊢
  have hl : lv_has ls 6 [(0, .ref (u r0)), (1, .ref (u r1)), (2, .int x2)] := hl
  refine ow_named (fun QQ hQQ => ?_)
  generalize ([.ref (u r0), .ref (u r1), .int x2] : List Value).toArray = args at hts hT hQQ ⊢
  have key : ∀ k : Nat, (∀ (x2 : Int32) (x3 : Int32) (x4 : Int32) (r0 : Nat) (r1 : Nat) (t0 : Int32) (t1 : Int32) (z : ow_MS) (H : Heap) (locs : List Loc) (ls : Array Slot), cw_X9 r0 → cw_X7 r1 → uw_M D vwCl (cX vl) q (tw_A (cX vl) u) s.heap u z H locs → lv_has ls 6 [(0, .ref (u r0)), (1, .ref (u r1)), (2, .int x2)] → c_X9_enter vl K k 0 x2 x3 x4 r0 r1 t0 t1 z = some (r, z1) → W p l e ({ frames := 0, cells := 0, slots := 0, locals := 0 } : Room) s m args below meth c H locs 0 0 QQ (F0 m 0 ls [])) ∧ (∀ (x2 : Int32) (x3 : Int32) (x4 : Int32) (r0 : Nat) (r1 : Nat) (t0 : Int32) (t1 : Int32) (z : ow_MS) (H : Heap) (locs : List Loc) (ls : Array Slot), cw_X9 r0 → cw_X7 r1 → uw_M D vwCl (cX vl) q (tw_A (cX vl) u) s.heap u z H locs → lv_has ls 6 [(0, .ref (u r0)), (1, .ref (u r1)), (2, .int x2)] → c_X9_enter vl K k 1 x2 x3 x4 r0 r1 t0 t1 z = some (r, z1) → W p l e ({ frames := 0, cells := 0, slots := 0, locals := 0 } : Room) s m args below meth c H locs 0 0 QQ (F0 m 21 ls [.int t0])) ∧ (∀ (x2 : Int32) (x3 : Int32) (x4 : Int32) (r0 : Nat) (r1 : Nat) (t0 : Int32) (t1 : Int32) (z : ow_MS) (H : Heap) (locs : List Loc) (ls : Array Slot), cw_X9 r0 → cw_X7 r1 → uw_M D vwCl (cX vl) q (tw_A (cX vl) u) s.heap u z H locs → lv_has ls 6 [(0, .ref (u r0)), (1, .ref (u r1)), (2, .int x2), (3, .int x3), (4, .int x4)] → c_X9_enter vl K k 2 x2 x3 x4 r0 r1 t0 t1 z = some (r, z1) → W p l e ({ frames := 0, cells := 0, slots := 0, locals := 0 } : Room) s m args below meth c H locs 0 0 QQ (F0 m 85 ls [])) ∧ (∀ (x2 : Int32) (x3 : Int32) (x4 : Int32) (r0 : Nat) (r1 : Nat) (t0 : Int32) (t1 : Int32) (z : ow_MS) (H : Heap) (locs : List Loc) (ls : Array Slot), cw_X9 r0 → cw_X7 r1 → uw_M D vwCl (cX vl) q (tw_A (cX vl) u) s.heap u z H locs → lv_has ls 6 [(0, .ref (u r0)), (1, .ref (u r1)), (2, .int x2), (3, .int x3), (4, .int x4)] → c_X9_enter vl K k 3 x2 x3 x4 r0 r1 t0 t1 z = some (r, z1) → W p l e ({ frames := 0, cells := 0, slots := 0, locals := 0 } : Room) s m args below meth c H locs 0 0 QQ (F0 m 105 ls [.int t0, .int t1])) := by
    intro k
    induction k with
    | zero => exact ⟨fun _ _ _ _ _ _ _ _ _ _ _ _ _ _ _ hq => cw_no hq, fun _ _ _ _ _ _ _ _ _ _ _ _ _ _ _ hq => cw_no hq, fun _ _ _ _ _ _ _ _ _ _ _ _ _ _ _ hq => cw_no hq, fun _ _ _ _ _ _ _ _ _ _ _ _ _ _ _ hq => cw_no hq⟩
    | succ k ih =>
      obtain ⟨ih_0, ih_1, ih_2, ih_3⟩ := ih
      refine ⟨?_, ?_, ?_, ?_⟩
      · intro x2 x3 x4 r0 r1 t0 t1 z H locs ls hr0 hr1 hM hl hq
        have hq : cm_X9_enter_0 vl K (c_X9_enter vl K k) x2 x3 x4 r0 r1 t0 t1 z = some (r, z1) := hq
        unfold cm_X9_enter_0 at hq
        refine lv_aload_n hx hb dcX9_enter_0 rfl (lv_at hl 0 rfl) ?_
        refine vgX9_9 hx hb hT hown hK hM hr0 dcX9_enter_1 ?_
        refine lv_aload_n hx hb dcX9_enter_4 rfl (lv_at hl 0 rfl) ?_
        refine vgX9_37 hx hb hT hown hK hM hr0 hq dcX9_enter_5 (fun v1 hq => ?_)
        refine lv_iconst (v := 1) hx hb dcX9_enter_8 (by decide) ?_
        refine lv_isub hx hb dcX9_enter_9 ?_
        refine uw_bald cX_ok hx hb hK hM (cr_X9_1 hr0) hq dcX9_enter_10 (fun v2 hq => ?_)
        refine lv_bipush (v := 43) hx hb dcX9_enter_11 (by decide) ?_
        refine lv_icmp_ne (tgt := 20) hx hb dcX9_enter_13 (by decide) (fun hc => ?_) (fun hc => ?_)
        · have hq := tw_if hq hc
          refine lv_iconst (v := (-1)) hx hb dcX9_enter_20 (by decide) ?_
          exact ih_1 x2 0 0 r0 r1 (-1) 0 z H locs ls hr0 hr1 hM (lv_sub hl [0, 1, 2] rfl) hq
        · have hq := tw_it hq hc
          refine lv_iconst (v := 1) hx hb dcX9_enter_16 (by decide) ?_
          refine lv_goto (tgt := 21) hx hb dcX9_enter_17 (by decide) ?_
          exact ih_1 x2 0 0 r0 r1 1 0 z H locs ls hr0 hr1 hM (lv_sub hl [0, 1, 2] rfl) hq
      · intro x2 x3 x4 r0 r1 t0 t1 z H locs ls hr0 hr1 hM hl hq
        have hq : cm_X9_enter_1 vl K (c_X9_enter vl K k) x2 x3 x4 r0 r1 t0 t1 z = some (r, z1) := hq
        unfold cm_X9_enter_1 at hq
        refine lv_istore_n (lv' := [(3, .int t0), (0, .ref (u r0)), (1, .ref (u r1)), (2, .int x2)]) hx hb dcX9_enter_21 rfl hl (by decide) rfl (fun ls hl => ?_)
        refine lv_aload_n hx hb dcX9_enter_22 rfl (lv_at hl 1 rfl) ?_
        refine vgX9_15 hx hb hT hown hK hM hr0 dcX9_enter_23 ?_
        refine lv_aload_n hx hb dcX9_enter_26 rfl (lv_at hl 1 rfl) ?_
        refine vgX9_63 hx hb hT hown hK hM hr0 hq dcX9_enter_27 (fun v3 hq => ?_)
        refine uw_iald cX_ok hx hb hK hM (cr_X9_2 hr0) hq dcX9_enter_30 (fun v4 hq => ?_)
        refine lv_istore (lv' := [(4, .int v4), (3, .int t0), (0, .ref (u r0)), (1, .ref (u r1)), (2, .int x2)]) hx hb dcX9_enter_31 hl (by decide) rfl (fun ls hl => ?_)
        refine lv_iload hx hb dcX9_enter_33 (lv_at hl 0 rfl) ?_
        refine lv_iconst (v := (-1)) hx hb dcX9_enter_35 (by decide) ?_
        refine lv_icmp_ne (tgt := 85) hx hb dcX9_enter_36 (by decide) (fun hc => ?_) (fun hc => ?_)
        · have hq := tw_if hq hc
          exact ih_2 x2 t0 v4 r0 r1 0 0 z H locs ls hr0 hr1 hM (lv_sub hl [2, 3, 4, 1, 0] rfl) hq
        · have hq := tw_it hq hc
          refine lv_aload_n hx hb dcX9_enter_39 rfl (lv_at hl 3 rfl) ?_
          refine vgX9_66 hx hb hT hown hK hM hr1 hq dcX9_enter_40 (fun v5 hq => ?_)
          refine lv_bipush (v := 12) hx hb dcX9_enter_43 (by decide) ?_
          refine lv_icmp_lt (tgt := 50) hx hb dcX9_enter_45 (by decide) (fun hc => ?_) (fun hc => ?_)
          · have hq := tw_it hq hc
            refine lv_aload_n hx hb dcX9_enter_50 rfl (lv_at hl 3 rfl) ?_
            refine vgX9_66 hx hb hT hown hK hM hr1 hq dcX9_enter_51 (fun v6 hq => ?_)
            refine lv_istore (lv' := [(4, .int v6), (3, .int t0), (0, .ref (u r0)), (1, .ref (u r1)), (2, .int x2)]) hx hb dcX9_enter_54 hl (by decide) rfl (fun ls hl => ?_)
            refine lv_aload_n hx hb dcX9_enter_56 rfl (lv_at hl 3 rfl) ?_
            refine lv_dup hx hb dcX9_enter_57 rfl ?_
            refine vgX9_66 hx hb hT hown hK hM hr1 hq dcX9_enter_58 (fun v7 hq => ?_)
            refine lv_iconst (v := 1) hx hb dcX9_enter_61 (by decide) ?_
            refine lv_iadd hx hb dcX9_enter_62 ?_
            refine vpX9_66 hx hb hT hown hK hM hU hr1 hq dcX9_enter_63 (fun z8 H locs hM hq => ?_)
            refine lv_aload_n hx hb dcX9_enter_66 rfl (lv_at hl 2 rfl) ?_
            refine vgX9_15 hx hb hT hown hK hM hr0 dcX9_enter_67 ?_
            refine lv_aload_n hx hb dcX9_enter_70 rfl (lv_at hl 2 rfl) ?_
            refine vgX9_63 hx hb hT hown hK hM hr0 hq dcX9_enter_71 (fun v9 hq => ?_)
            refine lv_iload hx hb dcX9_enter_74 (lv_at hl 0 rfl) ?_
            refine uw_iast cX_ok hU hx hb hK hM (cr_X9_2 hr0) hq dcX9_enter_76 (fun z10 H locs hM hq => ?_)
            refine lv_aload_n hx hb dcX9_enter_77 rfl (lv_at hl 3 rfl) ?_
            refine vgX9_69 hx hb hT hown hK hM hr1 dcX9_enter_78 ?_
            refine lv_iload hx hb dcX9_enter_81 (lv_at hl 0 rfl) ?_
            refine lv_iload_n hx hb dcX9_enter_83 rfl (lv_at hl 1 rfl) ?_
            refine uw_iast cX_ok hU hx hb hK hM (cr_X7_2 hr1) hq dcX9_enter_84 (fun z11 H locs hM hq => ?_)
            exact ih_2 x2 t0 v6 r0 r1 0 0 z11 H locs ls hr0 hr1 hM (lv_sub hl [2, 3, 4, 1, 0] rfl) hq
          · have hq := tw_if hq hc
            refine lv_iconst (v := (-1)) hx hb dcX9_enter_48 (by decide) ?_
            exact cw_iret hx hb hr hlocks hM hq hQQ dcX9_enter_49
      · intro x2 x3 x4 r0 r1 t0 t1 z H locs ls hr0 hr1 hM hl hq
        have hq : cm_X9_enter_2 vl K (c_X9_enter vl K k) x2 x3 x4 r0 r1 t0 t1 z = some (r, z1) := hq
        unfold cm_X9_enter_2 at hq
        refine lv_iconst (v := 2) hx hb dcX9_enter_85 (by decide) ?_
        refine lv_iload hx hb dcX9_enter_86 (lv_at hl 4 rfl) ?_
        refine lv_imul hx hb dcX9_enter_88 ?_
        refine lv_aload_n hx hb dcX9_enter_89 rfl (lv_at hl 0 rfl) ?_
        refine vgX9_9 hx hb hT hown hK hM hr0 dcX9_enter_90 ?_
        refine lv_iload_n hx hb dcX9_enter_93 rfl (lv_at hl 2 rfl) ?_
        refine uw_bald cX_ok hx hb hK hM (cr_X9_1 hr0) hq dcX9_enter_94 (fun v12 hq => ?_)
        refine lv_bipush (v := 117) hx hb dcX9_enter_95 (by decide) ?_
        refine lv_icmp_ne (tgt := 104) hx hb dcX9_enter_97 (by decide) (fun hc => ?_) (fun hc => ?_)
        · have hq := tw_if hq hc
          refine lv_iconst (v := 0) hx hb dcX9_enter_104 (by decide) ?_
          exact ih_3 x2 x3 x4 r0 r1 0 (2 * x4) z H locs ls hr0 hr1 hM (lv_sub hl [0, 1, 2, 3, 4] rfl) hq
        · have hq := tw_it hq hc
          refine lv_iconst (v := 1) hx hb dcX9_enter_100 (by decide) ?_
          refine lv_goto (tgt := 105) hx hb dcX9_enter_101 (by decide) ?_
          exact ih_3 x2 x3 x4 r0 r1 1 (2 * x4) z H locs ls hr0 hr1 hM (lv_sub hl [0, 1, 2, 3, 4] rfl) hq
      · intro x2 x3 x4 r0 r1 t0 t1 z H locs ls hr0 hr1 hM hl hq
        have hq : cm_X9_enter_3 vl K (c_X9_enter vl K k) x2 x3 x4 r0 r1 t0 t1 z = some (r, z1) := hq
        unfold cm_X9_enter_3 at hq
        refine lv_iadd hx hb dcX9_enter_105 ?_
        refine lv_istore (lv' := [(5, .int (t1 + t0)), (0, .ref (u r0)), (1, .ref (u r1)), (2, .int x2), (3, .int x3), (4, .int x4)]) hx hb dcX9_enter_106 hl (by decide) rfl (fun ls hl => ?_)
        refine lv_aload_n hx hb dcX9_enter_108 rfl (lv_at hl 1 rfl) ?_
        refine vgX9_19 hx hb hT hown hK hM hr0 dcX9_enter_109 ?_
        refine lv_iload hx hb dcX9_enter_112 (lv_at hl 0 rfl) ?_
        refine uw_iald cX_ok hx hb hK hM (cr_X9_3 hr0) hq dcX9_enter_114 (fun v13 hq => ?_)
        refine lv_iconst (v := (-1)) hx hb dcX9_enter_115 (by decide) ?_
        refine lv_icmp_ne (tgt := 130) hx hb dcX9_enter_116 (by decide) (fun hc => ?_) (fun hc => ?_)
        · have hq := tw_if hq hc
          refine lv_iconst (v := (-1)) hx hb dcX9_enter_130 (by decide) ?_
          exact cw_iret hx hb hr hlocks hM hq hQQ dcX9_enter_131
        · have hq := tw_it hq hc
          refine lv_aload_n hx hb dcX9_enter_119 rfl (lv_at hl 2 rfl) ?_
          refine vgX9_69 hx hb hT hown hK hM hr1 dcX9_enter_120 ?_
          refine lv_iload hx hb dcX9_enter_123 (lv_at hl 5 rfl) ?_
          refine uw_iald cX_ok hx hb hK hM (cr_X7_2 hr1) hq dcX9_enter_125 (fun v14 hq => ?_)
          refine lv_iload_n hx hb dcX9_enter_126 rfl (lv_at hl 4 rfl) ?_
          refine lv_icmp_eq (tgt := 132) hx hb dcX9_enter_127 (by decide) (fun hc => ?_) (fun hc => ?_)
          · have hq := tw_it hq hc
            refine lv_aload_n hx hb dcX9_enter_132 rfl (lv_at hl 1 rfl) ?_
            refine vgX9_19 hx hb hT hown hK hM hr0 dcX9_enter_133 ?_
            refine lv_iload hx hb dcX9_enter_136 (lv_at hl 0 rfl) ?_
            refine lv_iload_n hx hb dcX9_enter_138 rfl (lv_at hl 3 rfl) ?_
            refine uw_iast cX_ok hU hx hb hK hM (cr_X9_3 hr0) hq dcX9_enter_139 (fun z15 H locs hM hq => ?_)
            refine lv_iload hx hb dcX9_enter_140 (lv_at hl 0 rfl) ?_
            exact cw_iret hx hb hr hlocks hM hq hQQ dcX9_enter_142
          · have hq := tw_if hq hc
            refine lv_iconst (v := (-1)) hx hb dcX9_enter_130 (by decide) ?_
            exact cw_iret hx hb hr hlocks hM hq hQQ dcX9_enter_131
  exact (key K).1 x2 0 0 r0 r1 0 0 z s.heap [] ls hr0 hr1 hM (lv_sub hl [0, 1, 2] rfl) hq
theorem dcX9_finish_0 : decode cX9_finish 0 = .ok (.iload_n 1, 1) := by decide +kernel
theorem dcX9_finish_1 : decode cX9_finish 1 = .ok (.iconst (-1), 1) := by decide +kernel
theorem dcX9_finish_2 : decode cX9_finish 2 = .ok (.if_icmp .ne 16, 3) := by decide +kernel
theorem dcX9_finish_5 : decode cX9_finish 5 = .ok (.aload_n 0, 1) := by decide +kernel
theorem dcX9_finish_6 : decode cX9_finish 6 = .ok (.dup, 1) := by decide +kernel
theorem dcX9_finish_7 : decode cX9_finish 7 = .ok (.getfield 60, 3) := by decide +kernel
theorem dcX9_finish_10 : decode cX9_finish 10 = .ok (.iconst 1, 1) := by decide +kernel
theorem dcX9_finish_11 : decode cX9_finish 11 = .ok (.iadd, 1) := by decide +kernel
theorem dcX9_finish_12 : decode cX9_finish 12 = .ok (.putfield 60, 3) := by decide +kernel
theorem dcX9_finish_15 : decode cX9_finish 15 = .ok (.goto 9, 3) := by decide +kernel
theorem dcX9_finish_18 : decode cX9_finish 18 = .ok (.aload_n 0, 1) := by decide +kernel
theorem dcX9_finish_19 : decode cX9_finish 19 = .ok (.iload_n 2, 1) := by decide +kernel
theorem dcX9_finish_20 : decode cX9_finish 20 = .ok (.iload_n 1, 1) := by decide +kernel
theorem dcX9_finish_21 : decode cX9_finish 21 = .ok (.invokevirtual 52, 3) := by decide +kernel
theorem dcX9_finish_24 : decode cX9_finish 24 = .ok (.return_, 1) := by decide +kernel
def cm_X9_finish_0 (vl : Nat → Nat) (K : Nat) (x1 : Int32) (x2 : Int32) (r0 : Nat) (z : ow_MS) : Option ow_MS :=
 (if x1 = (-1) then rdF z (r0 + 9) fun v2 => wrF z (r0 + 9) (v2 + 1) fun z3 => some z3
 else cs0 (ce_X7_link vl K r0 x2 x1 z) fun z1 => some z1)
def ce_X9_finish (vl : Nat → Nat) (K : Nat) (r0 : Nat) (x1 : Int32) (x2 : Int32) (z : ow_MS) : Option ow_MS := cm_X9_finish_0 vl K x1 x2 r0 z
abbrev wc_X9_finish : List Cond := .code yX9_finish cX9_finish 3 none :: wC
theorem cdd_X9_finish : yX9_finish.cls ≠ "java/lang/invoke/MethodHandle" ∧ yX9_finish.cls ≠ "java/lang/invoke/VarHandle" ∧ (parseMethodDescriptor yX9_finish.desc).map (fun d => d.parameters.length) = some 3 := by decide +kernel
set_option maxHeartbeats 4000000 in
set_option maxRecDepth 100000 in
theorem kc_X9_finish (l : Launch) (D : va_G) (q : Nat → ClassId) (vl u : Nat → Nat) (hU0 : tw_inj (cX vl) u) (K : Nat) (r0 : Nat) (x1 : Int32) (x2 : Int32) (hr0 : cw_X7 r0) (z z1 : ow_MS) (hq : ce_X9_finish vl K r0 x1 x2 z = some z1) : Met l yX9_finish wc_X9_finish ({ frames := 1, cells := 0, slots := 0, locals := 22 } : Room) (va_Pc [.ref (u r0), .int x1, .int x2] (cw_pre D q vl u z)) (va_Qv (fun (_ : Unit) => True) (fun _ t => va_P D vwCl (uw (cX vl) q u z1) t.heap) (tw_A (cX vl) u)) 0 0 (tw_A (cX vl) u) := by
  refine Met.ofW (cc := cX9_finish) (maxL := 3) (ret := none) (by decide) rfl ?_
  intro p e s m args below meth c s₁ B hml hv
  obtain ⟨rfl, hP, hK⟩ := hv
  have hx := B.exec
  have hb := B.bytes
  have hr := B.returns
  have hts := atoms_spec (ws := wc_X9_finish) B.pre
  have hT : ∀ w ∈ wC, w.before ([.ref (u r0), .int x1, .int x2] : List Value).toArray s = true := fun w h => hts w (List.mem_cons_of_mem _ h)
  have hown : s.vm.findClass RX9 = some m.cls := findClass_of_methodNamed B.named
  have hlocks := B.notSynchronized
  have hU : uw_inj (cX vl) u (tw_A (cX vl) u) := ⟨hU0, fun h hh => ⟨h, hh, rfl⟩⟩
  have hM : uw_M D vwCl (cX vl) q (tw_A (cX vl) u) s.heap u z s.heap [] := ⟨hP, va_S.rf⟩
  have hl := lv_entry ([.ref (u r0), .int x1, .int x2]) (n := 3) (Nat.le_of_ble_eq_true rfl)
  rw [lg_entry_eq]
  generalize (lg_sl ([.ref (u r0), .int x1, .int x2]) ++ List.replicate (3 - (lg_sl ([.ref (u r0), .int x1, .int x2])).length) Slot.unset).toArray = ls at hl ⊢
  have hl : lv_has ls 3 [(0, .ref (u r0)), (1, .int x1), (2, .int x2)] := hl
  refine ow_named (fun QQ hQQ => ?_)
  generalize ([.ref (u r0), .int x1, .int x2] : List Value).toArray = args at hts hT hQQ ⊢
  have hq : cm_X9_finish_0 vl K x1 x2 r0 z = some z1 := hq
  unfold cm_X9_finish_0 at hq
  suffices key : ∀ (H : Heap) (locs : List Loc), uw_M D vwCl (cX vl) q (tw_A (cX vl) u) s.heap u z H locs → W p l e ({ frames := 1, cells := 0, slots := 0, locals := 22 } : Room) s m args below meth c H locs 0 0 QQ (F0 m 0 ls []) from key s.heap [] hM
  intro H locs hM
  refine lv_iload_n hx hb dcX9_finish_0 rfl (lv_at hl 1 rfl) ?_
  refine lv_iconst (v := (-1)) hx hb dcX9_finish_1 (by decide) ?_
  refine lv_icmp_ne (tgt := 18) hx hb dcX9_finish_2 (by decide) (fun hc => ?_) (fun hc => ?_)
  · have hq := tw_if hq hc
    refine lv_aload_n hx hb dcX9_finish_18 rfl (lv_at hl 0 rfl) ?_
    refine lv_iload_n hx hb dcX9_finish_19 rfl (lv_at hl 2 rfl) ?_
    refine lv_iload_n hx hb dcX9_finish_20 rfl (lv_at hl 1 rfl) ?_
    obtain ⟨z1, hcq, hq⟩ := tw_cl0 hq
    refine uw_calv hU hM (va_runV (As := [.int x2, .int x1]) (rest := []) ⟨hx, hb, hml, hown, hts⟩ (kc_X7_link l D q vl u hU.1 K r0 x2 x1 hr0 z z1 hcq) (cwV 2 hts (tw_gV wC_good xq_676 xq_161 xq_162 xq_54 xq_163) rfl rfl rfl cdd_X7_link ⟨(Nat.le_of_ble_eq_true rfl), (Nat.le_of_ble_eq_true rfl)⟩) (cw_preV hK hM (co_X7 hr0) rfl) rfl rfl hl.1 rfl (lv_room (Nat.le_of_ble_eq_true rfl)) dcX9_finish_21 ⟨(Nat.le_of_ble_eq_true rfl), (Nat.le_of_ble_eq_true rfl)⟩) (fun H locs hM => ?_)
    exact cw_vret hx hb hr hlocks hM hq hQQ dcX9_finish_24
  · have hq := tw_it hq hc
    refine lv_aload_n hx hb dcX9_finish_5 rfl (lv_at hl 0 rfl) ?_
    refine lv_dup hx hb dcX9_finish_6 rfl ?_
    refine vgX9_60 hx hb hT hown hK hM hr0 hq dcX9_finish_7 (fun v2 hq => ?_)
    refine lv_iconst (v := 1) hx hb dcX9_finish_10 (by decide) ?_
    refine lv_iadd hx hb dcX9_finish_11 ?_
    refine vpX9_60 hx hb hT hown hK hM hU hr0 hq dcX9_finish_12 (fun z3 H locs hM hq => ?_)
    refine lv_goto (tgt := 24) hx hb dcX9_finish_15 (by decide) ?_
    exact cw_vret hx hb hr hlocks hM hq hQQ dcX9_finish_24
theorem dcX9_firstLonely_0 : decode cX9_firstLonely 0 = .ok (.iconst (-1), 1) := dw_at cX9_firstLonely_k0 (p := 0) rfl (by decide +kernel)
theorem dcX9_firstLonely_1 : decode cX9_firstLonely 1 = .ok (.istore_n 2, 1) := dw_at cX9_firstLonely_k0 (p := 1) rfl (by decide +kernel)
theorem dcX9_firstLonely_2 : decode cX9_firstLonely 2 = .ok (.iconst 0, 1) := dw_at cX9_firstLonely_k0 (p := 2) rfl (by decide +kernel)
theorem dcX9_firstLonely_3 : decode cX9_firstLonely 3 = .ok (.istore_n 3, 1) := dw_at cX9_firstLonely_k0 (p := 3) rfl (by decide +kernel)
theorem dcX9_firstLonely_4 : decode cX9_firstLonely 4 = .ok (.iload_n 3, 1) := dw_at cX9_firstLonely_k0 (p := 4) rfl (by decide +kernel)
theorem dcX9_firstLonely_5 : decode cX9_firstLonely 5 = .ok (.iconst 2, 1) := dw_at cX9_firstLonely_k0 (p := 5) rfl (by decide +kernel)
theorem dcX9_firstLonely_6 : decode cX9_firstLonely 6 = .ok (.aload_n 1, 1) := dw_at cX9_firstLonely_k0 (p := 6) rfl (by decide +kernel)
theorem dcX9_firstLonely_7 : decode cX9_firstLonely 7 = .ok (.getfield 66, 3) := dw_at cX9_firstLonely_k0 (p := 7) rfl (by decide +kernel)
theorem dcX9_firstLonely_10 : decode cX9_firstLonely 10 = .ok (.imul, 1) := dw_at cX9_firstLonely_k0 (p := 10) rfl (by decide +kernel)
theorem dcX9_firstLonely_11 : decode cX9_firstLonely 11 = .ok (.if_icmp .ge 53, 3) := dw_at cX9_firstLonely_k0 (p := 11) rfl (by decide +kernel)
theorem dcX9_firstLonely_14 : decode cX9_firstLonely 14 = .ok (.aload_n 0, 1) := dw_at cX9_firstLonely_k0 (p := 14) rfl (by decide +kernel)
theorem dcX9_firstLonely_15 : decode cX9_firstLonely 15 = .ok (.getfield 19, 3) := dw_at cX9_firstLonely_k0 (p := 15) rfl (by decide +kernel)
theorem dcX9_firstLonely_18 : decode cX9_firstLonely 18 = .ok (.iload_n 3, 1) := dw_at cX9_firstLonely_k0 (p := 18) rfl (by decide +kernel)
theorem dcX9_firstLonely_19 : decode cX9_firstLonely 19 = .ok (.iaload, 1) := dw_at cX9_firstLonely_k0 (p := 19) rfl (by decide +kernel)
theorem dcX9_firstLonely_20 : decode cX9_firstLonely 20 = .ok (.iconst (-1), 1) := dw_at cX9_firstLonely_k0 (p := 20) rfl (by decide +kernel)
theorem dcX9_firstLonely_21 : decode cX9_firstLonely 21 = .ok (.if_icmp .eq 37, 3) := dw_at cX9_firstLonely_k0 (p := 21) rfl (by decide +kernel)
theorem dcX9_firstLonely_24 : decode cX9_firstLonely 24 = .ok (.aload_n 0, 1) := dw_at cX9_firstLonely_k1 (p := 0) rfl (by decide +kernel)
theorem dcX9_firstLonely_25 : decode cX9_firstLonely 25 = .ok (.getfield 19, 3) := dw_at cX9_firstLonely_k1 (p := 1) rfl (by decide +kernel)
theorem dcX9_firstLonely_28 : decode cX9_firstLonely 28 = .ok (.iload_n 3, 1) := dw_at cX9_firstLonely_k1 (p := 4) rfl (by decide +kernel)
theorem dcX9_firstLonely_29 : decode cX9_firstLonely 29 = .ok (.iconst 1, 1) := dw_at cX9_firstLonely_k1 (p := 5) rfl (by decide +kernel)
theorem dcX9_firstLonely_30 : decode cX9_firstLonely 30 = .ok (.ixor, 1) := dw_at cX9_firstLonely_k1 (p := 6) rfl (by decide +kernel)
theorem dcX9_firstLonely_31 : decode cX9_firstLonely 31 = .ok (.iaload, 1) := dw_at cX9_firstLonely_k1 (p := 7) rfl (by decide +kernel)
theorem dcX9_firstLonely_32 : decode cX9_firstLonely 32 = .ok (.iconst (-1), 1) := dw_at cX9_firstLonely_k1 (p := 8) rfl (by decide +kernel)
theorem dcX9_firstLonely_33 : decode cX9_firstLonely 33 = .ok (.if_icmp .ne 25, 3) := dw_at cX9_firstLonely_k1 (p := 9) rfl (by decide +kernel)
theorem dcX9_firstLonely_36 : decode cX9_firstLonely 36 = .ok (.iload_n 2, 1) := dw_at cX9_firstLonely_k1 (p := 12) rfl (by decide +kernel)
theorem dcX9_firstLonely_37 : decode cX9_firstLonely 37 = .ok (.iconst (-1), 1) := dw_at cX9_firstLonely_k1 (p := 13) rfl (by decide +kernel)
theorem dcX9_firstLonely_38 : decode cX9_firstLonely 38 = .ok (.if_icmp .eq 13, 3) := dw_at cX9_firstLonely_k1 (p := 14) rfl (by decide +kernel)
theorem dcX9_firstLonely_41 : decode cX9_firstLonely 41 = .ok (.aload_n 0, 1) := dw_at cX9_firstLonely_k1 (p := 17) rfl (by decide +kernel)
theorem dcX9_firstLonely_42 : decode cX9_firstLonely 42 = .ok (.getfield 19, 3) := dw_at cX9_firstLonely_k1 (p := 18) rfl (by decide +kernel)
theorem dcX9_firstLonely_45 : decode cX9_firstLonely 45 = .ok (.iload_n 3, 1) := dw_at cX9_firstLonely_k1 (p := 21) rfl (by decide +kernel)
theorem dcX9_firstLonely_46 : decode cX9_firstLonely 46 = .ok (.iaload, 1) := dw_at cX9_firstLonely_k1 (p := 22) rfl (by decide +kernel)
theorem dcX9_firstLonely_47 : decode cX9_firstLonely 47 = .ok (.iload_n 2, 1) := dw_at cX9_firstLonely_k1 (p := 23) rfl (by decide +kernel)
theorem dcX9_firstLonely_48 : decode cX9_firstLonely 48 = .ok (.if_icmp .ge 10, 3) := dw_at cX9_firstLonely_k2 (p := 0) rfl (by decide +kernel)
theorem dcX9_firstLonely_51 : decode cX9_firstLonely 51 = .ok (.aload_n 0, 1) := dw_at cX9_firstLonely_k2 (p := 3) rfl (by decide +kernel)
theorem dcX9_firstLonely_52 : decode cX9_firstLonely 52 = .ok (.getfield 19, 3) := dw_at cX9_firstLonely_k2 (p := 4) rfl (by decide +kernel)
theorem dcX9_firstLonely_55 : decode cX9_firstLonely 55 = .ok (.iload_n 3, 1) := dw_at cX9_firstLonely_k2 (p := 7) rfl (by decide +kernel)
theorem dcX9_firstLonely_56 : decode cX9_firstLonely 56 = .ok (.iaload, 1) := dw_at cX9_firstLonely_k2 (p := 8) rfl (by decide +kernel)
theorem dcX9_firstLonely_57 : decode cX9_firstLonely 57 = .ok (.istore_n 2, 1) := dw_at cX9_firstLonely_k2 (p := 9) rfl (by decide +kernel)
theorem dcX9_firstLonely_58 : decode cX9_firstLonely 58 = .ok (.iinc 3 1, 3) := dw_at cX9_firstLonely_k2 (p := 10) rfl (by decide +kernel)
theorem dcX9_firstLonely_61 : decode cX9_firstLonely 61 = .ok (.goto (-57), 3) := dw_at cX9_firstLonely_k2 (p := 13) rfl (by decide +kernel)
theorem dcX9_firstLonely_64 : decode cX9_firstLonely 64 = .ok (.iload_n 2, 1) := dw_at cX9_firstLonely_k2 (p := 16) rfl (by decide +kernel)
theorem dcX9_firstLonely_65 : decode cX9_firstLonely 65 = .ok (.ireturn, 1) := dw_at cX9_firstLonely_k2 (p := 17) rfl (by decide +kernel)
def cm_X9_firstLonely_0 (vl : Nat → Nat) (K : Nat) (go : Nat → Int32 → Int32 → Nat → Nat → ow_MS → Option (Int32 × ow_MS)) (x2 : Int32) (x3 : Int32) (r0 : Nat) (r1 : Nat) (z : ow_MS) : Option (Int32 × ow_MS) :=
 go 1 (-1) 0 r0 r1 z
def cm_X9_firstLonely_1 (vl : Nat → Nat) (K : Nat) (go : Nat → Int32 → Int32 → Nat → Nat → ow_MS → Option (Int32 × ow_MS)) (x2 : Int32) (x3 : Int32) (r0 : Nat) (r1 : Nat) (z : ow_MS) : Option (Int32 × ow_MS) :=
 rdF z (r1 + 8) fun v1 => (if (2 * v1) ≤ x3 then some (x2, z)
 else crI (cX vl) z (r0 + 4) x3 fun v2 => (if v2 = (-1) then go 3 x2 x3 r0 r1 z
 else crI (cX vl) z (r0 + 4) (x3 ^^^ 1) fun v3 => (if v3 = (-1) then (if x2 = (-1) then go 2 x2 x3 r0 r1 z
 else crI (cX vl) z (r0 + 4) x3 fun v4 => (if x2 ≤ v4 then go 3 x2 x3 r0 r1 z
 else go 2 x2 x3 r0 r1 z))
 else go 3 x2 x3 r0 r1 z)))
def cm_X9_firstLonely_2 (vl : Nat → Nat) (K : Nat) (go : Nat → Int32 → Int32 → Nat → Nat → ow_MS → Option (Int32 × ow_MS)) (x2 : Int32) (x3 : Int32) (r0 : Nat) (r1 : Nat) (z : ow_MS) : Option (Int32 × ow_MS) :=
 crI (cX vl) z (r0 + 4) x3 fun v5 => go 3 v5 x3 r0 r1 z
def cm_X9_firstLonely_3 (vl : Nat → Nat) (K : Nat) (go : Nat → Int32 → Int32 → Nat → Nat → ow_MS → Option (Int32 × ow_MS)) (x2 : Int32) (x3 : Int32) (r0 : Nat) (r1 : Nat) (z : ow_MS) : Option (Int32 × ow_MS) :=
 go 1 x2 (x3 + 1) r0 r1 z
def cb_X9_firstLonely (vl : Nat → Nat) (K : Nat) (go : Nat → Int32 → Int32 → Nat → Nat → ow_MS → Option (Int32 × ow_MS)) (L : Nat) (x2 : Int32) (x3 : Int32) (r0 : Nat) (r1 : Nat) (z : ow_MS) : Option (Int32 × ow_MS) := match L with
  | 0 => cm_X9_firstLonely_0 vl K go x2 x3 r0 r1 z
  | 1 => cm_X9_firstLonely_1 vl K go x2 x3 r0 r1 z
  | 2 => cm_X9_firstLonely_2 vl K go x2 x3 r0 r1 z
  | 3 => cm_X9_firstLonely_3 vl K go x2 x3 r0 r1 z
  | _ => none
def c_X9_firstLonely (vl : Nat → Nat) (K : Nat) : Nat → Nat → Int32 → Int32 → Nat → Nat → ow_MS → Option (Int32 × ow_MS)
  | 0 => fun _ _ _ _ _ _ => none
  | k + 1 => cb_X9_firstLonely vl K (c_X9_firstLonely vl K k)
def ce_X9_firstLonely (vl : Nat → Nat) (K : Nat) (r0 : Nat) (r1 : Nat) (z : ow_MS) : Option (Int32 × ow_MS) := c_X9_firstLonely vl K K 0 0 0 r0 r1 z
abbrev wc_X9_firstLonely : List Cond := .code yX9_firstLonely cX9_firstLonely 4 (some .int) :: wC
theorem cdd_X9_firstLonely : yX9_firstLonely.cls = RX9 ∧ yX9_firstLonely.cls ≠ "java/lang/invoke/MethodHandle" ∧ yX9_firstLonely.cls ≠ "java/lang/invoke/VarHandle" ∧ (parseMethodDescriptor yX9_firstLonely.desc).map (fun d => d.parameters.length) = some 1 := by decide +kernel
set_option maxHeartbeats 4000000 in
set_option maxRecDepth 100000 in
theorem kc_X9_firstLonely (l : Launch) (D : va_G) (q : Nat → ClassId) (vl u : Nat → Nat) (hU0 : tw_inj (cX vl) u) (K : Nat) (r0 : Nat) (r1 : Nat) (hr0 : cw_X9 r0) (hr1 : cw_X7 r1) (z z1 : ow_MS) (r : Int32) (hq : ce_X9_firstLonely vl K r0 r1 z = some (r, z1)) : Met l yX9_firstLonely wc_X9_firstLonely ({ frames := 0, cells := 0, slots := 0, locals := 0 } : Room) (va_Pc [.ref (u r0), .ref (u r1)] (cw_pre D q vl u z)) (va_Qi (fun x (_ : Unit) => x = r) (fun _ t => va_P D vwCl (uw (cX vl) q u z1) t.heap) (tw_A (cX vl) u)) 0 0 (tw_A (cX vl) u) := by
  refine Met.ofW (cc := cX9_firstLonely) (maxL := 4) (ret := (some .int)) (by decide) rfl ?_
  intro p e s m args below meth c s₁ B hml hv
  obtain ⟨rfl, hP, hK⟩ := hv
  have hx := B.exec
  have hb := B.bytes
  have hr := B.returns
  have hts := atoms_spec (ws := wc_X9_firstLonely) B.pre
  have hT : ∀ w ∈ wC, w.before ([.ref (u r0), .ref (u r1)] : List Value).toArray s = true := fun w h => hts w (List.mem_cons_of_mem _ h)
  have hown : s.vm.findClass RX9 = some m.cls := findClass_of_methodNamed B.named
  have hlocks := B.notSynchronized
  have hU : uw_inj (cX vl) u (tw_A (cX vl) u) := ⟨hU0, fun h hh => ⟨h, hh, rfl⟩⟩
  have hM : uw_M D vwCl (cX vl) q (tw_A (cX vl) u) s.heap u z s.heap [] := ⟨hP, va_S.rf⟩
  have hl := lv_entry ([.ref (u r0), .ref (u r1)]) (n := 4) (Nat.le_of_ble_eq_true rfl)
  rw [lg_entry_eq]
  generalize (lg_sl ([.ref (u r0), .ref (u r1)]) ++ List.replicate (4 - (lg_sl ([.ref (u r0), .ref (u r1)])).length) Slot.unset).toArray = ls at hl ⊢
  have hl : lv_has ls 4 [(0, .ref (u r0)), (1, .ref (u r1))] := hl
  refine ow_named (fun QQ hQQ => ?_)
  generalize ([.ref (u r0), .ref (u r1)] : List Value).toArray = args at hts hT hQQ ⊢
  have key : ∀ k : Nat, (∀ (x2 : Int32) (x3 : Int32) (r0 : Nat) (r1 : Nat) (z : ow_MS) (H : Heap) (locs : List Loc) (ls : Array Slot), cw_X9 r0 → cw_X7 r1 → uw_M D vwCl (cX vl) q (tw_A (cX vl) u) s.heap u z H locs → lv_has ls 4 [(0, .ref (u r0)), (1, .ref (u r1))] → c_X9_firstLonely vl K k 0 x2 x3 r0 r1 z = some (r, z1) → W p l e ({ frames := 0, cells := 0, slots := 0, locals := 0 } : Room) s m args below meth c H locs 0 0 QQ (F0 m 0 ls [])) ∧ (∀ (x2 : Int32) (x3 : Int32) (r0 : Nat) (r1 : Nat) (z : ow_MS) (H : Heap) (locs : List Loc) (ls : Array Slot), cw_X9 r0 → cw_X7 r1 → uw_M D vwCl (cX vl) q (tw_A (cX vl) u) s.heap u z H locs → lv_has ls 4 [(0, .ref (u r0)), (1, .ref (u r1)), (2, .int x2), (3, .int x3)] → c_X9_firstLonely vl K k 1 x2 x3 r0 r1 z = some (r, z1) → W p l e ({ frames := 0, cells := 0, slots := 0, locals := 0 } : Room) s m args below meth c H locs 0 0 QQ (F0 m 4 ls [])) ∧ (∀ (x2 : Int32) (x3 : Int32) (r0 : Nat) (r1 : Nat) (z : ow_MS) (H : Heap) (locs : List Loc) (ls : Array Slot), cw_X9 r0 → cw_X7 r1 → uw_M D vwCl (cX vl) q (tw_A (cX vl) u) s.heap u z H locs → lv_has ls 4 [(0, .ref (u r0)), (1, .ref (u r1)), (2, .int x2), (3, .int x3)] → c_X9_firstLonely vl K k 2 x2 x3 r0 r1 z = some (r, z1) → W p l e ({ frames := 0, cells := 0, slots := 0, locals := 0 } : Room) s m args below meth c H locs 0 0 QQ (F0 m 51 ls [])) ∧ (∀ (x2 : Int32) (x3 : Int32) (r0 : Nat) (r1 : Nat) (z : ow_MS) (H : Heap) (locs : List Loc) (ls : Array Slot), cw_X9 r0 → cw_X7 r1 → uw_M D vwCl (cX vl) q (tw_A (cX vl) u) s.heap u z H locs → lv_has ls 4 [(0, .ref (u r0)), (1, .ref (u r1)), (2, .int x2), (3, .int x3)] → c_X9_firstLonely vl K k 3 x2 x3 r0 r1 z = some (r, z1) → W p l e ({ frames := 0, cells := 0, slots := 0, locals := 0 } : Room) s m args below meth c H locs 0 0 QQ (F0 m 58 ls [])) := by
    intro k
    induction k with
    | zero => exact ⟨fun _ _ _ _ _ _ _ _ _ _ _ _ hq => cw_no hq, fun _ _ _ _ _ _ _ _ _ _ _ _ hq => cw_no hq, fun _ _ _ _ _ _ _ _ _ _ _ _ hq => cw_no hq, fun _ _ _ _ _ _ _ _ _ _ _ _ hq => cw_no hq⟩
    | succ k ih =>
      obtain ⟨ih_0, ih_1, ih_2, ih_3⟩ := ih
      refine ⟨?_, ?_, ?_, ?_⟩
      · intro x2 x3 r0 r1 z H locs ls hr0 hr1 hM hl hq
        have hq : cm_X9_firstLonely_0 vl K (c_X9_firstLonely vl K k) x2 x3 r0 r1 z = some (r, z1) := hq
        unfold cm_X9_firstLonely_0 at hq
        refine lv_iconst (v := (-1)) hx hb dcX9_firstLonely_0 (by decide) ?_
        refine lv_istore_n (lv' := [(2, .int (-1)), (0, .ref (u r0)), (1, .ref (u r1))]) hx hb dcX9_firstLonely_1 rfl hl (by decide) rfl (fun ls hl => ?_)
        refine lv_iconst (v := 0) hx hb dcX9_firstLonely_2 (by decide) ?_
        refine lv_istore_n (lv' := [(3, .int 0), (2, .int (-1)), (0, .ref (u r0)), (1, .ref (u r1))]) hx hb dcX9_firstLonely_3 rfl hl (by decide) rfl (fun ls hl => ?_)
        exact ih_1 (-1) 0 r0 r1 z H locs ls hr0 hr1 hM (lv_sub hl [2, 3, 1, 0] rfl) hq
      · intro x2 x3 r0 r1 z H locs ls hr0 hr1 hM hl hq
        have hq : cm_X9_firstLonely_1 vl K (c_X9_firstLonely vl K k) x2 x3 r0 r1 z = some (r, z1) := hq
        unfold cm_X9_firstLonely_1 at hq
        refine lv_iload_n hx hb dcX9_firstLonely_4 rfl (lv_at hl 3 rfl) ?_
        refine lv_iconst (v := 2) hx hb dcX9_firstLonely_5 (by decide) ?_
        refine lv_aload_n hx hb dcX9_firstLonely_6 rfl (lv_at hl 1 rfl) ?_
        refine vgX9_66 hx hb hT hown hK hM hr1 hq dcX9_firstLonely_7 (fun v1 hq => ?_)
        refine lv_imul hx hb dcX9_firstLonely_10 ?_
        refine lv_icmp_ge (tgt := 64) hx hb dcX9_firstLonely_11 (by decide) (fun hc => ?_) (fun hc => ?_)
        · have hq := tw_it hq hc
          refine lv_iload_n hx hb dcX9_firstLonely_64 rfl (lv_at hl 2 rfl) ?_
          exact cw_iret hx hb hr hlocks hM hq hQQ dcX9_firstLonely_65
        · have hq := tw_if hq hc
          refine lv_aload_n hx hb dcX9_firstLonely_14 rfl (lv_at hl 0 rfl) ?_
          refine vgX9_19 hx hb hT hown hK hM hr0 dcX9_firstLonely_15 ?_
          refine lv_iload_n hx hb dcX9_firstLonely_18 rfl (lv_at hl 3 rfl) ?_
          refine uw_iald cX_ok hx hb hK hM (cr_X9_3 hr0) hq dcX9_firstLonely_19 (fun v2 hq => ?_)
          refine lv_iconst (v := (-1)) hx hb dcX9_firstLonely_20 (by decide) ?_
          refine lv_icmp_eq (tgt := 58) hx hb dcX9_firstLonely_21 (by decide) (fun hc => ?_) (fun hc => ?_)
          · have hq := tw_it hq hc
            exact ih_3 x2 x3 r0 r1 z H locs ls hr0 hr1 hM (lv_sub hl [0, 1, 2, 3] rfl) hq
          · have hq := tw_if hq hc
            refine lv_aload_n hx hb dcX9_firstLonely_24 rfl (lv_at hl 0 rfl) ?_
            refine vgX9_19 hx hb hT hown hK hM hr0 dcX9_firstLonely_25 ?_
            refine lv_iload_n hx hb dcX9_firstLonely_28 rfl (lv_at hl 3 rfl) ?_
            refine lv_iconst (v := 1) hx hb dcX9_firstLonely_29 (by decide) ?_
            refine lv_ixor hx hb dcX9_firstLonely_30 ?_
            refine uw_iald cX_ok hx hb hK hM (cr_X9_3 hr0) hq dcX9_firstLonely_31 (fun v3 hq => ?_)
            refine lv_iconst (v := (-1)) hx hb dcX9_firstLonely_32 (by decide) ?_
            refine lv_icmp_ne (tgt := 58) hx hb dcX9_firstLonely_33 (by decide) (fun hc => ?_) (fun hc => ?_)
            · have hq := tw_if hq hc
              exact ih_3 x2 x3 r0 r1 z H locs ls hr0 hr1 hM (lv_sub hl [0, 1, 2, 3] rfl) hq
            · have hq := tw_it hq hc
              refine lv_iload_n hx hb dcX9_firstLonely_36 rfl (lv_at hl 2 rfl) ?_
              refine lv_iconst (v := (-1)) hx hb dcX9_firstLonely_37 (by decide) ?_
              refine lv_icmp_eq (tgt := 51) hx hb dcX9_firstLonely_38 (by decide) (fun hc => ?_) (fun hc => ?_)
              · have hq := tw_it hq hc
                exact ih_2 x2 x3 r0 r1 z H locs ls hr0 hr1 hM (lv_sub hl [0, 1, 2, 3] rfl) hq
              · have hq := tw_if hq hc
                refine lv_aload_n hx hb dcX9_firstLonely_41 rfl (lv_at hl 0 rfl) ?_
                refine vgX9_19 hx hb hT hown hK hM hr0 dcX9_firstLonely_42 ?_
                refine lv_iload_n hx hb dcX9_firstLonely_45 rfl (lv_at hl 3 rfl) ?_
                refine uw_iald cX_ok hx hb hK hM (cr_X9_3 hr0) hq dcX9_firstLonely_46 (fun v4 hq => ?_)
                refine lv_iload_n hx hb dcX9_firstLonely_47 rfl (lv_at hl 2 rfl) ?_
                refine lv_icmp_ge (tgt := 58) hx hb dcX9_firstLonely_48 (by decide) (fun hc => ?_) (fun hc => ?_)
                · have hq := tw_it hq hc
                  exact ih_3 x2 x3 r0 r1 z H locs ls hr0 hr1 hM (lv_sub hl [0, 1, 2, 3] rfl) hq
                · have hq := tw_if hq hc
                  exact ih_2 x2 x3 r0 r1 z H locs ls hr0 hr1 hM (lv_sub hl [0, 1, 2, 3] rfl) hq
      · intro x2 x3 r0 r1 z H locs ls hr0 hr1 hM hl hq
        have hq : cm_X9_firstLonely_2 vl K (c_X9_firstLonely vl K k) x2 x3 r0 r1 z = some (r, z1) := hq
        unfold cm_X9_firstLonely_2 at hq
        refine lv_aload_n hx hb dcX9_firstLonely_51 rfl (lv_at hl 0 rfl) ?_
        refine vgX9_19 hx hb hT hown hK hM hr0 dcX9_firstLonely_52 ?_
        refine lv_iload_n hx hb dcX9_firstLonely_55 rfl (lv_at hl 3 rfl) ?_
        refine uw_iald cX_ok hx hb hK hM (cr_X9_3 hr0) hq dcX9_firstLonely_56 (fun v5 hq => ?_)
        refine lv_istore_n (lv' := [(2, .int v5), (0, .ref (u r0)), (1, .ref (u r1)), (3, .int x3)]) hx hb dcX9_firstLonely_57 rfl hl (by decide) rfl (fun ls hl => ?_)
        exact ih_3 v5 x3 r0 r1 z H locs ls hr0 hr1 hM (lv_sub hl [1, 2, 0, 3] rfl) hq
      · intro x2 x3 r0 r1 z H locs ls hr0 hr1 hM hl hq
        have hq : cm_X9_firstLonely_3 vl K (c_X9_firstLonely vl K k) x2 x3 r0 r1 z = some (r, z1) := hq
        unfold cm_X9_firstLonely_3 at hq
        refine lv_iinc (v := (x3 + 1)) (lv' := [(3, .int (x3 + 1)), (0, .ref (u r0)), (1, .ref (u r1)), (2, .int x2)]) hx hb dcX9_firstLonely_58 hl (k := 3) rfl rfl (by decide) rfl (fun ls hl => ?_)
        refine lv_goto (tgt := 4) hx hb dcX9_firstLonely_61 (by decide) ?_
        exact ih_1 x2 (x3 + 1) r0 r1 z H locs ls hr0 hr1 hM (lv_sub hl [1, 2, 3, 0] rfl) hq
  exact (key K).1 0 0 r0 r1 z s.heap [] ls hr0 hr1 hM (lv_sub hl [0, 1] rfl) hq
theorem dcX9_readVisit_0 : decode cX9_readVisit 0 = .ok (.aload_n 0, 1) := dw_at cX9_readVisit_k0 (p := 0) rfl (by decide +kernel)
theorem dcX9_readVisit_1 : decode cX9_readVisit 1 = .ok (.getfield 9, 3) := dw_at cX9_readVisit_k0 (p := 1) rfl (by decide +kernel)
theorem dcX9_readVisit_4 : decode cX9_readVisit 4 = .ok (.aload_n 0, 1) := dw_at cX9_readVisit_k0 (p := 4) rfl (by decide +kernel)
theorem dcX9_readVisit_5 : decode cX9_readVisit 5 = .ok (.getfield 37, 3) := dw_at cX9_readVisit_k0 (p := 5) rfl (by decide +kernel)
theorem dcX9_readVisit_8 : decode cX9_readVisit 8 = .ok (.baload, 1) := dw_at cX9_readVisit_k0 (p := 8) rfl (by decide +kernel)
theorem dcX9_readVisit_9 : decode cX9_readVisit 9 = .ok (.bipush 111, 2) := dw_at cX9_readVisit_k0 (p := 9) rfl (by decide +kernel)
theorem dcX9_readVisit_11 : decode cX9_readVisit 11 = .ok (.if_icmp .eq 22, 3) := dw_at cX9_readVisit_k0 (p := 11) rfl (by decide +kernel)
theorem dcX9_readVisit_14 : decode cX9_readVisit 14 = .ok (.aload_n 0, 1) := dw_at cX9_readVisit_k0 (p := 14) rfl (by decide +kernel)
theorem dcX9_readVisit_15 : decode cX9_readVisit 15 = .ok (.getfield 9, 3) := dw_at cX9_readVisit_k0 (p := 15) rfl (by decide +kernel)
theorem dcX9_readVisit_18 : decode cX9_readVisit 18 = .ok (.aload_n 0, 1) := dw_at cX9_readVisit_k0 (p := 18) rfl (by decide +kernel)
theorem dcX9_readVisit_19 : decode cX9_readVisit 19 = .ok (.getfield 37, 3) := dw_at cX9_readVisit_k0 (p := 19) rfl (by decide +kernel)
theorem dcX9_readVisit_22 : decode cX9_readVisit 22 = .ok (.baload, 1) := dw_at cX9_readVisit_k0 (p := 22) rfl (by decide +kernel)
theorem dcX9_readVisit_23 : decode cX9_readVisit 23 = .ok (.bipush 117, 2) := dw_at cX9_readVisit_k0 (p := 23) rfl (by decide +kernel)
theorem dcX9_readVisit_25 : decode cX9_readVisit 25 = .ok (.if_icmp .eq 8, 3) := dw_at cX9_readVisit_k1 (p := 0) rfl (by decide +kernel)
theorem dcX9_readVisit_28 : decode cX9_readVisit 28 = .ok (.aload_n 0, 1) := dw_at cX9_readVisit_k1 (p := 3) rfl (by decide +kernel)
theorem dcX9_readVisit_29 : decode cX9_readVisit 29 = .ok (.getfield 37, 3) := dw_at cX9_readVisit_k1 (p := 4) rfl (by decide +kernel)
theorem dcX9_readVisit_32 : decode cX9_readVisit 32 = .ok (.ireturn, 1) := dw_at cX9_readVisit_k1 (p := 7) rfl (by decide +kernel)
theorem dcX9_readVisit_33 : decode cX9_readVisit 33 = .ok (.aload_n 0, 1) := dw_at cX9_readVisit_k1 (p := 8) rfl (by decide +kernel)
theorem dcX9_readVisit_34 : decode cX9_readVisit 34 = .ok (.dup, 1) := dw_at cX9_readVisit_k1 (p := 9) rfl (by decide +kernel)
theorem dcX9_readVisit_35 : decode cX9_readVisit 35 = .ok (.getfield 37, 3) := dw_at cX9_readVisit_k1 (p := 10) rfl (by decide +kernel)
theorem dcX9_readVisit_38 : decode cX9_readVisit 38 = .ok (.iconst 1, 1) := dw_at cX9_readVisit_k1 (p := 13) rfl (by decide +kernel)
theorem dcX9_readVisit_39 : decode cX9_readVisit 39 = .ok (.iadd, 1) := dw_at cX9_readVisit_k1 (p := 14) rfl (by decide +kernel)
theorem dcX9_readVisit_40 : decode cX9_readVisit 40 = .ok (.putfield 37, 3) := dw_at cX9_readVisit_k1 (p := 15) rfl (by decide +kernel)
theorem dcX9_readVisit_43 : decode cX9_readVisit 43 = .ok (.aload_n 0, 1) := dw_at cX9_readVisit_k1 (p := 18) rfl (by decide +kernel)
theorem dcX9_readVisit_44 : decode cX9_readVisit 44 = .ok (.getfield 37, 3) := dw_at cX9_readVisit_k1 (p := 19) rfl (by decide +kernel)
theorem dcX9_readVisit_47 : decode cX9_readVisit 47 = .ok (.aload_n 0, 1) := dw_at cX9_readVisit_k1 (p := 22) rfl (by decide +kernel)
theorem dcX9_readVisit_48 : decode cX9_readVisit 48 = .ok (.getfield 22, 3) := dw_at cX9_readVisit_k1 (p := 23) rfl (by decide +kernel)
theorem dcX9_readVisit_51 : decode cX9_readVisit 51 = .ok (.if_icmp .ge 31, 3) := dw_at cX9_readVisit_k2 (p := 0) rfl (by decide +kernel)
theorem dcX9_readVisit_54 : decode cX9_readVisit 54 = .ok (.aload_n 0, 1) := dw_at cX9_readVisit_k2 (p := 3) rfl (by decide +kernel)
theorem dcX9_readVisit_55 : decode cX9_readVisit 55 = .ok (.getfield 9, 3) := dw_at cX9_readVisit_k2 (p := 4) rfl (by decide +kernel)
theorem dcX9_readVisit_58 : decode cX9_readVisit 58 = .ok (.aload_n 0, 1) := dw_at cX9_readVisit_k2 (p := 7) rfl (by decide +kernel)
theorem dcX9_readVisit_59 : decode cX9_readVisit 59 = .ok (.getfield 37, 3) := dw_at cX9_readVisit_k2 (p := 8) rfl (by decide +kernel)
theorem dcX9_readVisit_62 : decode cX9_readVisit 62 = .ok (.baload, 1) := dw_at cX9_readVisit_k2 (p := 11) rfl (by decide +kernel)
theorem dcX9_readVisit_63 : decode cX9_readVisit 63 = .ok (.bipush 49, 2) := dw_at cX9_readVisit_k2 (p := 12) rfl (by decide +kernel)
theorem dcX9_readVisit_65 : decode cX9_readVisit 65 = .ok (.if_icmp .lt 17, 3) := dw_at cX9_readVisit_k2 (p := 14) rfl (by decide +kernel)
theorem dcX9_readVisit_68 : decode cX9_readVisit 68 = .ok (.aload_n 0, 1) := dw_at cX9_readVisit_k2 (p := 17) rfl (by decide +kernel)
theorem dcX9_readVisit_69 : decode cX9_readVisit 69 = .ok (.getfield 9, 3) := dw_at cX9_readVisit_k2 (p := 18) rfl (by decide +kernel)
theorem dcX9_readVisit_72 : decode cX9_readVisit 72 = .ok (.aload_n 0, 1) := dw_at cX9_readVisit_k2 (p := 21) rfl (by decide +kernel)
theorem dcX9_readVisit_73 : decode cX9_readVisit 73 = .ok (.getfield 37, 3) := dw_at cX9_readVisit_k2 (p := 22) rfl (by decide +kernel)
theorem dcX9_readVisit_76 : decode cX9_readVisit 76 = .ok (.baload, 1) := dw_at cX9_readVisit_k3 (p := 0) rfl (by decide +kernel)
theorem dcX9_readVisit_77 : decode cX9_readVisit 77 = .ok (.bipush 57, 2) := dw_at cX9_readVisit_k3 (p := 1) rfl (by decide +kernel)
theorem dcX9_readVisit_79 : decode cX9_readVisit 79 = .ok (.if_icmp .le 8, 3) := dw_at cX9_readVisit_k3 (p := 3) rfl (by decide +kernel)
theorem dcX9_readVisit_82 : decode cX9_readVisit 82 = .ok (.aload_n 0, 1) := dw_at cX9_readVisit_k3 (p := 6) rfl (by decide +kernel)
theorem dcX9_readVisit_83 : decode cX9_readVisit 83 = .ok (.getfield 37, 3) := dw_at cX9_readVisit_k3 (p := 7) rfl (by decide +kernel)
theorem dcX9_readVisit_86 : decode cX9_readVisit 86 = .ok (.ireturn, 1) := dw_at cX9_readVisit_k3 (p := 10) rfl (by decide +kernel)
theorem dcX9_readVisit_87 : decode cX9_readVisit 87 = .ok (.aload_n 0, 1) := dw_at cX9_readVisit_k3 (p := 11) rfl (by decide +kernel)
theorem dcX9_readVisit_88 : decode cX9_readVisit 88 = .ok (.aload_n 0, 1) := dw_at cX9_readVisit_k3 (p := 12) rfl (by decide +kernel)
theorem dcX9_readVisit_89 : decode cX9_readVisit 89 = .ok (.getfield 9, 3) := dw_at cX9_readVisit_k3 (p := 13) rfl (by decide +kernel)
theorem dcX9_readVisit_92 : decode cX9_readVisit 92 = .ok (.aload_n 0, 1) := dw_at cX9_readVisit_k3 (p := 16) rfl (by decide +kernel)
theorem dcX9_readVisit_93 : decode cX9_readVisit 93 = .ok (.getfield 37, 3) := dw_at cX9_readVisit_k3 (p := 17) rfl (by decide +kernel)
theorem dcX9_readVisit_96 : decode cX9_readVisit 96 = .ok (.baload, 1) := dw_at cX9_readVisit_k3 (p := 20) rfl (by decide +kernel)
theorem dcX9_readVisit_97 : decode cX9_readVisit 97 = .ok (.bipush 48, 2) := dw_at cX9_readVisit_k3 (p := 21) rfl (by decide +kernel)
theorem dcX9_readVisit_99 : decode cX9_readVisit 99 = .ok (.isub, 1) := dw_at cX9_readVisit_k3 (p := 23) rfl (by decide +kernel)
theorem dcX9_readVisit_100 : decode cX9_readVisit 100 = .ok (.putfield 63, 3) := dw_at cX9_readVisit_k4 (p := 0) rfl (by decide +kernel)
theorem dcX9_readVisit_103 : decode cX9_readVisit 103 = .ok (.aload_n 0, 1) := dw_at cX9_readVisit_k4 (p := 3) rfl (by decide +kernel)
theorem dcX9_readVisit_104 : decode cX9_readVisit 104 = .ok (.dup, 1) := dw_at cX9_readVisit_k4 (p := 4) rfl (by decide +kernel)
theorem dcX9_readVisit_105 : decode cX9_readVisit 105 = .ok (.getfield 37, 3) := dw_at cX9_readVisit_k4 (p := 5) rfl (by decide +kernel)
theorem dcX9_readVisit_108 : decode cX9_readVisit 108 = .ok (.iconst 1, 1) := dw_at cX9_readVisit_k4 (p := 8) rfl (by decide +kernel)
theorem dcX9_readVisit_109 : decode cX9_readVisit 109 = .ok (.iadd, 1) := dw_at cX9_readVisit_k4 (p := 9) rfl (by decide +kernel)
theorem dcX9_readVisit_110 : decode cX9_readVisit 110 = .ok (.putfield 37, 3) := dw_at cX9_readVisit_k4 (p := 10) rfl (by decide +kernel)
theorem dcX9_readVisit_113 : decode cX9_readVisit 113 = .ok (.aload_n 0, 1) := dw_at cX9_readVisit_k4 (p := 13) rfl (by decide +kernel)
theorem dcX9_readVisit_114 : decode cX9_readVisit 114 = .ok (.getfield 37, 3) := dw_at cX9_readVisit_k4 (p := 14) rfl (by decide +kernel)
theorem dcX9_readVisit_117 : decode cX9_readVisit 117 = .ok (.aload_n 0, 1) := dw_at cX9_readVisit_k4 (p := 17) rfl (by decide +kernel)
theorem dcX9_readVisit_118 : decode cX9_readVisit 118 = .ok (.getfield 22, 3) := dw_at cX9_readVisit_k4 (p := 18) rfl (by decide +kernel)
theorem dcX9_readVisit_121 : decode cX9_readVisit 121 = .ok (.if_icmp .ge 65, 3) := dw_at cX9_readVisit_k4 (p := 21) rfl (by decide +kernel)
theorem dcX9_readVisit_124 : decode cX9_readVisit 124 = .ok (.aload_n 0, 1) := dw_at cX9_readVisit_k5 (p := 0) rfl (by decide +kernel)
theorem dcX9_readVisit_125 : decode cX9_readVisit 125 = .ok (.getfield 9, 3) := dw_at cX9_readVisit_k5 (p := 1) rfl (by decide +kernel)
theorem dcX9_readVisit_128 : decode cX9_readVisit 128 = .ok (.aload_n 0, 1) := dw_at cX9_readVisit_k5 (p := 4) rfl (by decide +kernel)
theorem dcX9_readVisit_129 : decode cX9_readVisit 129 = .ok (.getfield 37, 3) := dw_at cX9_readVisit_k5 (p := 5) rfl (by decide +kernel)
theorem dcX9_readVisit_132 : decode cX9_readVisit 132 = .ok (.baload, 1) := dw_at cX9_readVisit_k5 (p := 8) rfl (by decide +kernel)
theorem dcX9_readVisit_133 : decode cX9_readVisit 133 = .ok (.bipush 48, 2) := dw_at cX9_readVisit_k5 (p := 9) rfl (by decide +kernel)
theorem dcX9_readVisit_135 : decode cX9_readVisit 135 = .ok (.if_icmp .lt 51, 3) := dw_at cX9_readVisit_k5 (p := 11) rfl (by decide +kernel)
theorem dcX9_readVisit_138 : decode cX9_readVisit 138 = .ok (.aload_n 0, 1) := dw_at cX9_readVisit_k5 (p := 14) rfl (by decide +kernel)
theorem dcX9_readVisit_139 : decode cX9_readVisit 139 = .ok (.getfield 9, 3) := dw_at cX9_readVisit_k5 (p := 15) rfl (by decide +kernel)
theorem dcX9_readVisit_142 : decode cX9_readVisit 142 = .ok (.aload_n 0, 1) := dw_at cX9_readVisit_k5 (p := 18) rfl (by decide +kernel)
theorem dcX9_readVisit_143 : decode cX9_readVisit 143 = .ok (.getfield 37, 3) := dw_at cX9_readVisit_k5 (p := 19) rfl (by decide +kernel)
theorem dcX9_readVisit_146 : decode cX9_readVisit 146 = .ok (.baload, 1) := dw_at cX9_readVisit_k5 (p := 22) rfl (by decide +kernel)
theorem dcX9_readVisit_147 : decode cX9_readVisit 147 = .ok (.bipush 57, 2) := dw_at cX9_readVisit_k5 (p := 23) rfl (by decide +kernel)
theorem dcX9_readVisit_149 : decode cX9_readVisit 149 = .ok (.if_icmp .gt 37, 3) := dw_at cX9_readVisit_k6 (p := 0) rfl (by decide +kernel)
theorem dcX9_readVisit_152 : decode cX9_readVisit 152 = .ok (.aload_n 0, 1) := dw_at cX9_readVisit_k6 (p := 3) rfl (by decide +kernel)
theorem dcX9_readVisit_153 : decode cX9_readVisit 153 = .ok (.bipush 10, 2) := dw_at cX9_readVisit_k6 (p := 4) rfl (by decide +kernel)
theorem dcX9_readVisit_155 : decode cX9_readVisit 155 = .ok (.aload_n 0, 1) := dw_at cX9_readVisit_k6 (p := 6) rfl (by decide +kernel)
theorem dcX9_readVisit_156 : decode cX9_readVisit 156 = .ok (.getfield 63, 3) := dw_at cX9_readVisit_k6 (p := 7) rfl (by decide +kernel)
theorem dcX9_readVisit_159 : decode cX9_readVisit 159 = .ok (.imul, 1) := dw_at cX9_readVisit_k6 (p := 10) rfl (by decide +kernel)
theorem dcX9_readVisit_160 : decode cX9_readVisit 160 = .ok (.aload_n 0, 1) := dw_at cX9_readVisit_k6 (p := 11) rfl (by decide +kernel)
theorem dcX9_readVisit_161 : decode cX9_readVisit 161 = .ok (.getfield 9, 3) := dw_at cX9_readVisit_k6 (p := 12) rfl (by decide +kernel)
theorem dcX9_readVisit_164 : decode cX9_readVisit 164 = .ok (.aload_n 0, 1) := dw_at cX9_readVisit_k6 (p := 15) rfl (by decide +kernel)
theorem dcX9_readVisit_165 : decode cX9_readVisit 165 = .ok (.getfield 37, 3) := dw_at cX9_readVisit_k6 (p := 16) rfl (by decide +kernel)
theorem dcX9_readVisit_168 : decode cX9_readVisit 168 = .ok (.baload, 1) := dw_at cX9_readVisit_k6 (p := 19) rfl (by decide +kernel)
theorem dcX9_readVisit_169 : decode cX9_readVisit 169 = .ok (.iadd, 1) := dw_at cX9_readVisit_k6 (p := 20) rfl (by decide +kernel)
theorem dcX9_readVisit_170 : decode cX9_readVisit 170 = .ok (.bipush 48, 2) := dw_at cX9_readVisit_k6 (p := 21) rfl (by decide +kernel)
theorem dcX9_readVisit_172 : decode cX9_readVisit 172 = .ok (.isub, 1) := dw_at cX9_readVisit_k6 (p := 23) rfl (by decide +kernel)
theorem dcX9_readVisit_173 : decode cX9_readVisit 173 = .ok (.putfield 63, 3) := dw_at cX9_readVisit_k7 (p := 0) rfl (by decide +kernel)
theorem dcX9_readVisit_176 : decode cX9_readVisit 176 = .ok (.aload_n 0, 1) := dw_at cX9_readVisit_k7 (p := 3) rfl (by decide +kernel)
theorem dcX9_readVisit_177 : decode cX9_readVisit 177 = .ok (.dup, 1) := dw_at cX9_readVisit_k7 (p := 4) rfl (by decide +kernel)
theorem dcX9_readVisit_178 : decode cX9_readVisit 178 = .ok (.getfield 37, 3) := dw_at cX9_readVisit_k7 (p := 5) rfl (by decide +kernel)
theorem dcX9_readVisit_181 : decode cX9_readVisit 181 = .ok (.iconst 1, 1) := dw_at cX9_readVisit_k7 (p := 8) rfl (by decide +kernel)
theorem dcX9_readVisit_182 : decode cX9_readVisit 182 = .ok (.iadd, 1) := dw_at cX9_readVisit_k7 (p := 9) rfl (by decide +kernel)
theorem dcX9_readVisit_183 : decode cX9_readVisit 183 = .ok (.putfield 37, 3) := dw_at cX9_readVisit_k7 (p := 10) rfl (by decide +kernel)
theorem dcX9_readVisit_186 : decode cX9_readVisit 186 = .ok (.aload_n 0, 1) := dw_at cX9_readVisit_k7 (p := 13) rfl (by decide +kernel)
theorem dcX9_readVisit_187 : decode cX9_readVisit 187 = .ok (.getfield 37, 3) := dw_at cX9_readVisit_k7 (p := 14) rfl (by decide +kernel)
theorem dcX9_readVisit_190 : decode cX9_readVisit 190 = .ok (.aload_n 0, 1) := dw_at cX9_readVisit_k7 (p := 17) rfl (by decide +kernel)
theorem dcX9_readVisit_191 : decode cX9_readVisit 191 = .ok (.getfield 22, 3) := dw_at cX9_readVisit_k7 (p := 18) rfl (by decide +kernel)
theorem dcX9_readVisit_194 : decode cX9_readVisit 194 = .ok (.if_icmp .ge 31, 3) := dw_at cX9_readVisit_k7 (p := 21) rfl (by decide +kernel)
theorem dcX9_readVisit_197 : decode cX9_readVisit 197 = .ok (.aload_n 0, 1) := dw_at cX9_readVisit_k8 (p := 0) rfl (by decide +kernel)
theorem dcX9_readVisit_198 : decode cX9_readVisit 198 = .ok (.getfield 9, 3) := dw_at cX9_readVisit_k8 (p := 1) rfl (by decide +kernel)
theorem dcX9_readVisit_201 : decode cX9_readVisit 201 = .ok (.aload_n 0, 1) := dw_at cX9_readVisit_k8 (p := 4) rfl (by decide +kernel)
theorem dcX9_readVisit_202 : decode cX9_readVisit 202 = .ok (.getfield 37, 3) := dw_at cX9_readVisit_k8 (p := 5) rfl (by decide +kernel)
theorem dcX9_readVisit_205 : decode cX9_readVisit 205 = .ok (.baload, 1) := dw_at cX9_readVisit_k8 (p := 8) rfl (by decide +kernel)
theorem dcX9_readVisit_206 : decode cX9_readVisit 206 = .ok (.bipush 43, 2) := dw_at cX9_readVisit_k8 (p := 9) rfl (by decide +kernel)
theorem dcX9_readVisit_208 : decode cX9_readVisit 208 = .ok (.if_icmp .eq 22, 3) := dw_at cX9_readVisit_k8 (p := 11) rfl (by decide +kernel)
theorem dcX9_readVisit_211 : decode cX9_readVisit 211 = .ok (.aload_n 0, 1) := dw_at cX9_readVisit_k8 (p := 14) rfl (by decide +kernel)
theorem dcX9_readVisit_212 : decode cX9_readVisit 212 = .ok (.getfield 9, 3) := dw_at cX9_readVisit_k8 (p := 15) rfl (by decide +kernel)
theorem dcX9_readVisit_215 : decode cX9_readVisit 215 = .ok (.aload_n 0, 1) := dw_at cX9_readVisit_k8 (p := 18) rfl (by decide +kernel)
theorem dcX9_readVisit_216 : decode cX9_readVisit 216 = .ok (.getfield 37, 3) := dw_at cX9_readVisit_k8 (p := 19) rfl (by decide +kernel)
theorem dcX9_readVisit_219 : decode cX9_readVisit 219 = .ok (.baload, 1) := dw_at cX9_readVisit_k8 (p := 22) rfl (by decide +kernel)
theorem dcX9_readVisit_220 : decode cX9_readVisit 220 = .ok (.bipush 45, 2) := dw_at cX9_readVisit_k8 (p := 23) rfl (by decide +kernel)
theorem dcX9_readVisit_222 : decode cX9_readVisit 222 = .ok (.if_icmp .eq 8, 3) := dw_at cX9_readVisit_k9 (p := 0) rfl (by decide +kernel)
theorem dcX9_readVisit_225 : decode cX9_readVisit 225 = .ok (.aload_n 0, 1) := dw_at cX9_readVisit_k9 (p := 3) rfl (by decide +kernel)
theorem dcX9_readVisit_226 : decode cX9_readVisit 226 = .ok (.getfield 37, 3) := dw_at cX9_readVisit_k9 (p := 4) rfl (by decide +kernel)
theorem dcX9_readVisit_229 : decode cX9_readVisit 229 = .ok (.ireturn, 1) := dw_at cX9_readVisit_k9 (p := 7) rfl (by decide +kernel)
theorem dcX9_readVisit_230 : decode cX9_readVisit 230 = .ok (.aload_n 0, 1) := dw_at cX9_readVisit_k9 (p := 8) rfl (by decide +kernel)
theorem dcX9_readVisit_231 : decode cX9_readVisit 231 = .ok (.dup, 1) := dw_at cX9_readVisit_k9 (p := 9) rfl (by decide +kernel)
theorem dcX9_readVisit_232 : decode cX9_readVisit 232 = .ok (.getfield 37, 3) := dw_at cX9_readVisit_k9 (p := 10) rfl (by decide +kernel)
theorem dcX9_readVisit_235 : decode cX9_readVisit 235 = .ok (.iconst 1, 1) := dw_at cX9_readVisit_k9 (p := 13) rfl (by decide +kernel)
theorem dcX9_readVisit_236 : decode cX9_readVisit 236 = .ok (.iadd, 1) := dw_at cX9_readVisit_k9 (p := 14) rfl (by decide +kernel)
theorem dcX9_readVisit_237 : decode cX9_readVisit 237 = .ok (.putfield 37, 3) := dw_at cX9_readVisit_k9 (p := 15) rfl (by decide +kernel)
theorem dcX9_readVisit_240 : decode cX9_readVisit 240 = .ok (.iconst (-1), 1) := dw_at cX9_readVisit_k9 (p := 18) rfl (by decide +kernel)
theorem dcX9_readVisit_241 : decode cX9_readVisit 241 = .ok (.ireturn, 1) := dw_at cX9_readVisit_k9 (p := 19) rfl (by decide +kernel)
def cm_X9_readVisit_0 (vl : Nat → Nat) (K : Nat) (go : Nat → Nat → ow_MS → Option (Int32 × ow_MS)) (r0 : Nat) (z : ow_MS) : Option (Int32 × ow_MS) :=
 rdF z (r0 + 5) fun v1 => crI (cX vl) z (r0 + 2) v1 fun v2 => (if v2 = 111 then go 1 r0 z
 else rdF z (r0 + 5) fun v3 => crI (cX vl) z (r0 + 2) v3 fun v4 => (if v4 = 117 then go 1 r0 z
 else rdF z (r0 + 5) fun v5 => some (v5, z)))
def cm_X9_readVisit_1 (vl : Nat → Nat) (K : Nat) (go : Nat → Nat → ow_MS → Option (Int32 × ow_MS)) (r0 : Nat) (z : ow_MS) : Option (Int32 × ow_MS) :=
 rdF z (r0 + 5) fun v6 => wrF z (r0 + 5) (v6 + 1) fun z7 => rdF z7 (r0 + 5) fun v8 => rdF z7 (r0 + 1) fun v9 => (if v9 ≤ v8 then go 2 r0 z7
 else rdF z7 (r0 + 5) fun v10 => crI (cX vl) z7 (r0 + 2) v10 fun v11 => (if v11 < 49 then go 2 r0 z7
 else rdF z7 (r0 + 5) fun v12 => crI (cX vl) z7 (r0 + 2) v12 fun v13 => (if v13 ≤ 57 then rdF z7 (r0 + 5) fun v14 => crI (cX vl) z7 (r0 + 2) v14 fun v15 => wrF z7 (r0 + 6) (v15 - 48) fun z16 => rdF z16 (r0 + 5) fun v17 => wrF z16 (r0 + 5) (v17 + 1) fun z18 => rdF z18 (r0 + 5) fun v19 => rdF z18 (r0 + 1) fun v20 => (if v20 ≤ v19 then go 3 r0 z18
 else rdF z18 (r0 + 5) fun v21 => crI (cX vl) z18 (r0 + 2) v21 fun v22 => (if v22 < 48 then go 3 r0 z18
 else rdF z18 (r0 + 5) fun v23 => crI (cX vl) z18 (r0 + 2) v23 fun v24 => (if 57 < v24 then go 3 r0 z18
 else rdF z18 (r0 + 6) fun v25 => rdF z18 (r0 + 5) fun v26 => crI (cX vl) z18 (r0 + 2) v26 fun v27 => wrF z18 (r0 + 6) (((10 * v25) + v27) - 48) fun z28 => rdF z28 (r0 + 5) fun v29 => wrF z28 (r0 + 5) (v29 + 1) fun z30 => go 3 r0 z30)))
 else go 2 r0 z7)))
def cm_X9_readVisit_2 (vl : Nat → Nat) (K : Nat) (go : Nat → Nat → ow_MS → Option (Int32 × ow_MS)) (r0 : Nat) (z : ow_MS) : Option (Int32 × ow_MS) :=
 rdF z (r0 + 5) fun v31 => some (v31, z)
def cm_X9_readVisit_3 (vl : Nat → Nat) (K : Nat) (go : Nat → Nat → ow_MS → Option (Int32 × ow_MS)) (r0 : Nat) (z : ow_MS) : Option (Int32 × ow_MS) :=
 rdF z (r0 + 5) fun v32 => rdF z (r0 + 1) fun v33 => (if v33 ≤ v32 then go 4 r0 z
 else rdF z (r0 + 5) fun v34 => crI (cX vl) z (r0 + 2) v34 fun v35 => (if v35 = 43 then go 5 r0 z
 else rdF z (r0 + 5) fun v36 => crI (cX vl) z (r0 + 2) v36 fun v37 => (if v37 = 45 then go 5 r0 z
 else go 4 r0 z)))
def cm_X9_readVisit_4 (vl : Nat → Nat) (K : Nat) (go : Nat → Nat → ow_MS → Option (Int32 × ow_MS)) (r0 : Nat) (z : ow_MS) : Option (Int32 × ow_MS) :=
 rdF z (r0 + 5) fun v38 => some (v38, z)
def cm_X9_readVisit_5 (vl : Nat → Nat) (K : Nat) (go : Nat → Nat → ow_MS → Option (Int32 × ow_MS)) (r0 : Nat) (z : ow_MS) : Option (Int32 × ow_MS) :=
 rdF z (r0 + 5) fun v39 => wrF z (r0 + 5) (v39 + 1) fun z40 => some ((-1), z40)
def cb_X9_readVisit (vl : Nat → Nat) (K : Nat) (go : Nat → Nat → ow_MS → Option (Int32 × ow_MS)) (L : Nat) (r0 : Nat) (z : ow_MS) : Option (Int32 × ow_MS) := match L with
  | 0 => cm_X9_readVisit_0 vl K go r0 z
  | 1 => cm_X9_readVisit_1 vl K go r0 z
  | 2 => cm_X9_readVisit_2 vl K go r0 z
  | 3 => cm_X9_readVisit_3 vl K go r0 z
  | 4 => cm_X9_readVisit_4 vl K go r0 z
  | 5 => cm_X9_readVisit_5 vl K go r0 z
  | _ => none
def c_X9_readVisit (vl : Nat → Nat) (K : Nat) : Nat → Nat → Nat → ow_MS → Option (Int32 × ow_MS)
  | 0 => fun _ _ _ => none
  | k + 1 => cb_X9_readVisit vl K (c_X9_readVisit vl K k)
def ce_X9_readVisit (vl : Nat → Nat) (K : Nat) (r0 : Nat) (z : ow_MS) : Option (Int32 × ow_MS) := c_X9_readVisit vl K K 0 r0 z
abbrev wc_X9_readVisit : List Cond := .code yX9_readVisit cX9_readVisit 1 (some .int) :: wC
theorem cdd_X9_readVisit : yX9_readVisit.cls = RX9 ∧ yX9_readVisit.cls ≠ "java/lang/invoke/MethodHandle" ∧ yX9_readVisit.cls ≠ "java/lang/invoke/VarHandle" ∧ (parseMethodDescriptor yX9_readVisit.desc).map (fun d => d.parameters.length) = some 0 := by decide +kernel
set_option maxHeartbeats 4000000 in
set_option maxRecDepth 100000 in
theorem kc_X9_readVisit (l : Launch) (D : va_G) (q : Nat → ClassId) (vl u : Nat → Nat) (hU0 : tw_inj (cX vl) u) (K : Nat) (r0 : Nat) (hr0 : cw_X9 r0) (z z1 : ow_MS) (r : Int32) (hq : ce_X9_readVisit vl K r0 z = some (r, z1)) : Met l yX9_readVisit wc_X9_readVisit ({ frames := 0, cells := 0, slots := 0, locals := 0 } : Room) (va_Pc [.ref (u r0)] (cw_pre D q vl u z)) (va_Qi (fun x (_ : Unit) => x = r) (fun _ t => va_P D vwCl (uw (cX vl) q u z1) t.heap) (tw_A (cX vl) u)) 0 0 (tw_A (cX vl) u) := by
  refine Met.ofW (cc := cX9_readVisit) (maxL := 1) (ret := (some .int)) (by decide) rfl ?_
  intro p e s m args below meth c s₁ B hml hv
  obtain ⟨rfl, hP, hK⟩ := hv
  have hx := B.exec
  have hb := B.bytes
  have hr := B.returns
  have hts := atoms_spec (ws := wc_X9_readVisit) B.pre
  have hT : ∀ w ∈ wC, w.before ([.ref (u r0)] : List Value).toArray s = true := fun w h => hts w (List.mem_cons_of_mem _ h)
  have hown : s.vm.findClass RX9 = some m.cls := findClass_of_methodNamed B.named
  have hlocks := B.notSynchronized
  have hU : uw_inj (cX vl) u (tw_A (cX vl) u) := ⟨hU0, fun h hh => ⟨h, hh, rfl⟩⟩
  have hM : uw_M D vwCl (cX vl) q (tw_A (cX vl) u) s.heap u z s.heap [] := ⟨hP, va_S.rf⟩
  have hl := lv_entry ([.ref (u r0)]) (n := 1) (Nat.le_of_ble_eq_true rfl)
  rw [lg_entry_eq]
  generalize (lg_sl ([.ref (u r0)]) ++ List.replicate (1 - (lg_sl ([.ref (u r0)])).length) Slot.unset).toArray = ls at hl ⊢
  have hl : lv_has ls 1 [(0, .ref (u r0))] := hl
  refine ow_named (fun QQ hQQ => ?_)
  generalize ([.ref (u r0)] : List Value).toArray = args at hts hT hQQ ⊢
  have key : ∀ k : Nat, (∀ (r0 : Nat) (z : ow_MS) (H : Heap) (locs : List Loc) (ls : Array Slot), cw_X9 r0 → uw_M D vwCl (cX vl) q (tw_A (cX vl) u) s.heap u z H locs → lv_has ls 1 [(0, .ref (u r0))] → c_X9_readVisit vl K k 0 r0 z = some (r, z1) → W p l e ({ frames := 0, cells := 0, slots := 0, locals := 0 } : Room) s m args below meth c H locs 0 0 QQ (F0 m 0 ls [])) ∧ (∀ (r0 : Nat) (z : ow_MS) (H : Heap) (locs : List Loc) (ls : Array Slot), cw_X9 r0 → uw_M D vwCl (cX vl) q (tw_A (cX vl) u) s.heap u z H locs → lv_has ls 1 [(0, .ref (u r0))] → c_X9_readVisit vl K k 1 r0 z = some (r, z1) → W p l e ({ frames := 0, cells := 0, slots := 0, locals := 0 } : Room) s m args below meth c H locs 0 0 QQ (F0 m 33 ls [])) ∧ (∀ (r0 : Nat) (z : ow_MS) (H : Heap) (locs : List Loc) (ls : Array Slot), cw_X9 r0 → uw_M D vwCl (cX vl) q (tw_A (cX vl) u) s.heap u z H locs → lv_has ls 1 [(0, .ref (u r0))] → c_X9_readVisit vl K k 2 r0 z = some (r, z1) → W p l e ({ frames := 0, cells := 0, slots := 0, locals := 0 } : Room) s m args below meth c H locs 0 0 QQ (F0 m 82 ls [])) ∧ (∀ (r0 : Nat) (z : ow_MS) (H : Heap) (locs : List Loc) (ls : Array Slot), cw_X9 r0 → uw_M D vwCl (cX vl) q (tw_A (cX vl) u) s.heap u z H locs → lv_has ls 1 [(0, .ref (u r0))] → c_X9_readVisit vl K k 3 r0 z = some (r, z1) → W p l e ({ frames := 0, cells := 0, slots := 0, locals := 0 } : Room) s m args below meth c H locs 0 0 QQ (F0 m 186 ls [])) ∧ (∀ (r0 : Nat) (z : ow_MS) (H : Heap) (locs : List Loc) (ls : Array Slot), cw_X9 r0 → uw_M D vwCl (cX vl) q (tw_A (cX vl) u) s.heap u z H locs → lv_has ls 1 [(0, .ref (u r0))] → c_X9_readVisit vl K k 4 r0 z = some (r, z1) → W p l e ({ frames := 0, cells := 0, slots := 0, locals := 0 } : Room) s m args below meth c H locs 0 0 QQ (F0 m 225 ls [])) ∧ (∀ (r0 : Nat) (z : ow_MS) (H : Heap) (locs : List Loc) (ls : Array Slot), cw_X9 r0 → uw_M D vwCl (cX vl) q (tw_A (cX vl) u) s.heap u z H locs → lv_has ls 1 [(0, .ref (u r0))] → c_X9_readVisit vl K k 5 r0 z = some (r, z1) → W p l e ({ frames := 0, cells := 0, slots := 0, locals := 0 } : Room) s m args below meth c H locs 0 0 QQ (F0 m 230 ls [])) := by
    intro k
    induction k with
    | zero => exact ⟨fun _ _ _ _ _ _ _ _ hq => cw_no hq, fun _ _ _ _ _ _ _ _ hq => cw_no hq, fun _ _ _ _ _ _ _ _ hq => cw_no hq, fun _ _ _ _ _ _ _ _ hq => cw_no hq, fun _ _ _ _ _ _ _ _ hq => cw_no hq, fun _ _ _ _ _ _ _ _ hq => cw_no hq⟩
    | succ k ih =>
      obtain ⟨ih_0, ih_1, ih_2, ih_3, ih_4, ih_5⟩ := ih
      refine ⟨?_, ?_, ?_, ?_, ?_, ?_⟩
      · intro r0 z H locs ls hr0 hM hl hq
        have hq : cm_X9_readVisit_0 vl K (c_X9_readVisit vl K k) r0 z = some (r, z1) := hq
        unfold cm_X9_readVisit_0 at hq
        refine lv_aload_n hx hb dcX9_readVisit_0 rfl (lv_at hl 0 rfl) ?_
        refine vgX9_9 hx hb hT hown hK hM hr0 dcX9_readVisit_1 ?_
        refine lv_aload_n hx hb dcX9_readVisit_4 rfl (lv_at hl 0 rfl) ?_
        refine vgX9_37 hx hb hT hown hK hM hr0 hq dcX9_readVisit_5 (fun v1 hq => ?_)
        refine uw_bald cX_ok hx hb hK hM (cr_X9_1 hr0) hq dcX9_readVisit_8 (fun v2 hq => ?_)
        refine lv_bipush (v := 111) hx hb dcX9_readVisit_9 (by decide) ?_
        refine lv_icmp_eq (tgt := 33) hx hb dcX9_readVisit_11 (by decide) (fun hc => ?_) (fun hc => ?_)
        · have hq := tw_it hq hc
          exact ih_1 r0 z H locs ls hr0 hM (lv_sub hl [0] rfl) hq
        · have hq := tw_if hq hc
          refine lv_aload_n hx hb dcX9_readVisit_14 rfl (lv_at hl 0 rfl) ?_
          refine vgX9_9 hx hb hT hown hK hM hr0 dcX9_readVisit_15 ?_
          refine lv_aload_n hx hb dcX9_readVisit_18 rfl (lv_at hl 0 rfl) ?_
          refine vgX9_37 hx hb hT hown hK hM hr0 hq dcX9_readVisit_19 (fun v3 hq => ?_)
          refine uw_bald cX_ok hx hb hK hM (cr_X9_1 hr0) hq dcX9_readVisit_22 (fun v4 hq => ?_)
          refine lv_bipush (v := 117) hx hb dcX9_readVisit_23 (by decide) ?_
          refine lv_icmp_eq (tgt := 33) hx hb dcX9_readVisit_25 (by decide) (fun hc => ?_) (fun hc => ?_)
          · have hq := tw_it hq hc
            exact ih_1 r0 z H locs ls hr0 hM (lv_sub hl [0] rfl) hq
          · have hq := tw_if hq hc
            refine lv_aload_n hx hb dcX9_readVisit_28 rfl (lv_at hl 0 rfl) ?_
            refine vgX9_37 hx hb hT hown hK hM hr0 hq dcX9_readVisit_29 (fun v5 hq => ?_)
            exact cw_iret hx hb hr hlocks hM hq hQQ dcX9_readVisit_32
      · intro r0 z H locs ls hr0 hM hl hq
        have hq : cm_X9_readVisit_1 vl K (c_X9_readVisit vl K k) r0 z = some (r, z1) := hq
        unfold cm_X9_readVisit_1 at hq
        refine lv_aload_n hx hb dcX9_readVisit_33 rfl (lv_at hl 0 rfl) ?_
        refine lv_dup hx hb dcX9_readVisit_34 rfl ?_
        refine vgX9_37 hx hb hT hown hK hM hr0 hq dcX9_readVisit_35 (fun v6 hq => ?_)
        refine lv_iconst (v := 1) hx hb dcX9_readVisit_38 (by decide) ?_
        refine lv_iadd hx hb dcX9_readVisit_39 ?_
        refine vpX9_37 hx hb hT hown hK hM hU hr0 hq dcX9_readVisit_40 (fun z7 H locs hM hq => ?_)
        refine lv_aload_n hx hb dcX9_readVisit_43 rfl (lv_at hl 0 rfl) ?_
        refine vgX9_37 hx hb hT hown hK hM hr0 hq dcX9_readVisit_44 (fun v8 hq => ?_)
        refine lv_aload_n hx hb dcX9_readVisit_47 rfl (lv_at hl 0 rfl) ?_
        refine vgX9_22 hx hb hT hown hK hM hr0 hq dcX9_readVisit_48 (fun v9 hq => ?_)
        refine lv_icmp_ge (tgt := 82) hx hb dcX9_readVisit_51 (by decide) (fun hc => ?_) (fun hc => ?_)
        · have hq := tw_it hq hc
          exact ih_2 r0 z7 H locs ls hr0 hM (lv_sub hl [0] rfl) hq
        · have hq := tw_if hq hc
          refine lv_aload_n hx hb dcX9_readVisit_54 rfl (lv_at hl 0 rfl) ?_
          refine vgX9_9 hx hb hT hown hK hM hr0 dcX9_readVisit_55 ?_
          refine lv_aload_n hx hb dcX9_readVisit_58 rfl (lv_at hl 0 rfl) ?_
          refine vgX9_37 hx hb hT hown hK hM hr0 hq dcX9_readVisit_59 (fun v10 hq => ?_)
          refine uw_bald cX_ok hx hb hK hM (cr_X9_1 hr0) hq dcX9_readVisit_62 (fun v11 hq => ?_)
          refine lv_bipush (v := 49) hx hb dcX9_readVisit_63 (by decide) ?_
          refine lv_icmp_lt (tgt := 82) hx hb dcX9_readVisit_65 (by decide) (fun hc => ?_) (fun hc => ?_)
          · have hq := tw_it hq hc
            exact ih_2 r0 z7 H locs ls hr0 hM (lv_sub hl [0] rfl) hq
          · have hq := tw_if hq hc
            refine lv_aload_n hx hb dcX9_readVisit_68 rfl (lv_at hl 0 rfl) ?_
            refine vgX9_9 hx hb hT hown hK hM hr0 dcX9_readVisit_69 ?_
            refine lv_aload_n hx hb dcX9_readVisit_72 rfl (lv_at hl 0 rfl) ?_
            refine vgX9_37 hx hb hT hown hK hM hr0 hq dcX9_readVisit_73 (fun v12 hq => ?_)
            refine uw_bald cX_ok hx hb hK hM (cr_X9_1 hr0) hq dcX9_readVisit_76 (fun v13 hq => ?_)
            refine lv_bipush (v := 57) hx hb dcX9_readVisit_77 (by decide) ?_
            refine lv_icmp_le (tgt := 87) hx hb dcX9_readVisit_79 (by decide) (fun hc => ?_) (fun hc => ?_)
            · have hq := tw_it hq hc
              refine lv_aload_n hx hb dcX9_readVisit_87 rfl (lv_at hl 0 rfl) ?_
              refine lv_aload_n hx hb dcX9_readVisit_88 rfl (lv_at hl 0 rfl) ?_
              refine vgX9_9 hx hb hT hown hK hM hr0 dcX9_readVisit_89 ?_
              refine lv_aload_n hx hb dcX9_readVisit_92 rfl (lv_at hl 0 rfl) ?_
              refine vgX9_37 hx hb hT hown hK hM hr0 hq dcX9_readVisit_93 (fun v14 hq => ?_)
              refine uw_bald cX_ok hx hb hK hM (cr_X9_1 hr0) hq dcX9_readVisit_96 (fun v15 hq => ?_)
              refine lv_bipush (v := 48) hx hb dcX9_readVisit_97 (by decide) ?_
              refine lv_isub hx hb dcX9_readVisit_99 ?_
              refine vpX9_63 hx hb hT hown hK hM hU hr0 hq dcX9_readVisit_100 (fun z16 H locs hM hq => ?_)
              refine lv_aload_n hx hb dcX9_readVisit_103 rfl (lv_at hl 0 rfl) ?_
              refine lv_dup hx hb dcX9_readVisit_104 rfl ?_
              refine vgX9_37 hx hb hT hown hK hM hr0 hq dcX9_readVisit_105 (fun v17 hq => ?_)
              refine lv_iconst (v := 1) hx hb dcX9_readVisit_108 (by decide) ?_
              refine lv_iadd hx hb dcX9_readVisit_109 ?_
              refine vpX9_37 hx hb hT hown hK hM hU hr0 hq dcX9_readVisit_110 (fun z18 H locs hM hq => ?_)
              refine lv_aload_n hx hb dcX9_readVisit_113 rfl (lv_at hl 0 rfl) ?_
              refine vgX9_37 hx hb hT hown hK hM hr0 hq dcX9_readVisit_114 (fun v19 hq => ?_)
              refine lv_aload_n hx hb dcX9_readVisit_117 rfl (lv_at hl 0 rfl) ?_
              refine vgX9_22 hx hb hT hown hK hM hr0 hq dcX9_readVisit_118 (fun v20 hq => ?_)
              refine lv_icmp_ge (tgt := 186) hx hb dcX9_readVisit_121 (by decide) (fun hc => ?_) (fun hc => ?_)
              · have hq := tw_it hq hc
                exact ih_3 r0 z18 H locs ls hr0 hM (lv_sub hl [0] rfl) hq
              · have hq := tw_if hq hc
                refine lv_aload_n hx hb dcX9_readVisit_124 rfl (lv_at hl 0 rfl) ?_
                refine vgX9_9 hx hb hT hown hK hM hr0 dcX9_readVisit_125 ?_
                refine lv_aload_n hx hb dcX9_readVisit_128 rfl (lv_at hl 0 rfl) ?_
                refine vgX9_37 hx hb hT hown hK hM hr0 hq dcX9_readVisit_129 (fun v21 hq => ?_)
                refine uw_bald cX_ok hx hb hK hM (cr_X9_1 hr0) hq dcX9_readVisit_132 (fun v22 hq => ?_)
                refine lv_bipush (v := 48) hx hb dcX9_readVisit_133 (by decide) ?_
                refine lv_icmp_lt (tgt := 186) hx hb dcX9_readVisit_135 (by decide) (fun hc => ?_) (fun hc => ?_)
                · have hq := tw_it hq hc
                  exact ih_3 r0 z18 H locs ls hr0 hM (lv_sub hl [0] rfl) hq
                · have hq := tw_if hq hc
                  refine lv_aload_n hx hb dcX9_readVisit_138 rfl (lv_at hl 0 rfl) ?_
                  refine vgX9_9 hx hb hT hown hK hM hr0 dcX9_readVisit_139 ?_
                  refine lv_aload_n hx hb dcX9_readVisit_142 rfl (lv_at hl 0 rfl) ?_
                  refine vgX9_37 hx hb hT hown hK hM hr0 hq dcX9_readVisit_143 (fun v23 hq => ?_)
                  refine uw_bald cX_ok hx hb hK hM (cr_X9_1 hr0) hq dcX9_readVisit_146 (fun v24 hq => ?_)
                  refine lv_bipush (v := 57) hx hb dcX9_readVisit_147 (by decide) ?_
                  refine lv_icmp_gt (tgt := 186) hx hb dcX9_readVisit_149 (by decide) (fun hc => ?_) (fun hc => ?_)
                  · have hq := tw_it hq hc
                    exact ih_3 r0 z18 H locs ls hr0 hM (lv_sub hl [0] rfl) hq
                  · have hq := tw_if hq hc
                    refine lv_aload_n hx hb dcX9_readVisit_152 rfl (lv_at hl 0 rfl) ?_
                    refine lv_bipush (v := 10) hx hb dcX9_readVisit_153 (by decide) ?_
                    refine lv_aload_n hx hb dcX9_readVisit_155 rfl (lv_at hl 0 rfl) ?_
                    refine vgX9_63 hx hb hT hown hK hM hr0 hq dcX9_readVisit_156 (fun v25 hq => ?_)
                    refine lv_imul hx hb dcX9_readVisit_159 ?_
                    refine lv_aload_n hx hb dcX9_readVisit_160 rfl (lv_at hl 0 rfl) ?_
                    refine vgX9_9 hx hb hT hown hK hM hr0 dcX9_readVisit_161 ?_
                    refine lv_aload_n hx hb dcX9_readVisit_164 rfl (lv_at hl 0 rfl) ?_
                    refine vgX9_37 hx hb hT hown hK hM hr0 hq dcX9_readVisit_165 (fun v26 hq => ?_)
                    refine uw_bald cX_ok hx hb hK hM (cr_X9_1 hr0) hq dcX9_readVisit_168 (fun v27 hq => ?_)
                    refine lv_iadd hx hb dcX9_readVisit_169 ?_
                    refine lv_bipush (v := 48) hx hb dcX9_readVisit_170 (by decide) ?_
                    refine lv_isub hx hb dcX9_readVisit_172 ?_
                    refine vpX9_63 hx hb hT hown hK hM hU hr0 hq dcX9_readVisit_173 (fun z28 H locs hM hq => ?_)
                    refine lv_aload_n hx hb dcX9_readVisit_176 rfl (lv_at hl 0 rfl) ?_
                    refine lv_dup hx hb dcX9_readVisit_177 rfl ?_
                    refine vgX9_37 hx hb hT hown hK hM hr0 hq dcX9_readVisit_178 (fun v29 hq => ?_)
                    refine lv_iconst (v := 1) hx hb dcX9_readVisit_181 (by decide) ?_
                    refine lv_iadd hx hb dcX9_readVisit_182 ?_
                    refine vpX9_37 hx hb hT hown hK hM hU hr0 hq dcX9_readVisit_183 (fun z30 H locs hM hq => ?_)
                    exact ih_3 r0 z30 H locs ls hr0 hM (lv_sub hl [0] rfl) hq
            · have hq := tw_if hq hc
              exact ih_2 r0 z7 H locs ls hr0 hM (lv_sub hl [0] rfl) hq
      · intro r0 z H locs ls hr0 hM hl hq
        have hq : cm_X9_readVisit_2 vl K (c_X9_readVisit vl K k) r0 z = some (r, z1) := hq
        unfold cm_X9_readVisit_2 at hq
        refine lv_aload_n hx hb dcX9_readVisit_82 rfl (lv_at hl 0 rfl) ?_
        refine vgX9_37 hx hb hT hown hK hM hr0 hq dcX9_readVisit_83 (fun v31 hq => ?_)
        exact cw_iret hx hb hr hlocks hM hq hQQ dcX9_readVisit_86
      · intro r0 z H locs ls hr0 hM hl hq
        have hq : cm_X9_readVisit_3 vl K (c_X9_readVisit vl K k) r0 z = some (r, z1) := hq
        unfold cm_X9_readVisit_3 at hq
        refine lv_aload_n hx hb dcX9_readVisit_186 rfl (lv_at hl 0 rfl) ?_
        refine vgX9_37 hx hb hT hown hK hM hr0 hq dcX9_readVisit_187 (fun v32 hq => ?_)
        refine lv_aload_n hx hb dcX9_readVisit_190 rfl (lv_at hl 0 rfl) ?_
        refine vgX9_22 hx hb hT hown hK hM hr0 hq dcX9_readVisit_191 (fun v33 hq => ?_)
        refine lv_icmp_ge (tgt := 225) hx hb dcX9_readVisit_194 (by decide) (fun hc => ?_) (fun hc => ?_)
        · have hq := tw_it hq hc
          exact ih_4 r0 z H locs ls hr0 hM (lv_sub hl [0] rfl) hq
        · have hq := tw_if hq hc
          refine lv_aload_n hx hb dcX9_readVisit_197 rfl (lv_at hl 0 rfl) ?_
          refine vgX9_9 hx hb hT hown hK hM hr0 dcX9_readVisit_198 ?_
          refine lv_aload_n hx hb dcX9_readVisit_201 rfl (lv_at hl 0 rfl) ?_
          refine vgX9_37 hx hb hT hown hK hM hr0 hq dcX9_readVisit_202 (fun v34 hq => ?_)
          refine uw_bald cX_ok hx hb hK hM (cr_X9_1 hr0) hq dcX9_readVisit_205 (fun v35 hq => ?_)
          refine lv_bipush (v := 43) hx hb dcX9_readVisit_206 (by decide) ?_
          refine lv_icmp_eq (tgt := 230) hx hb dcX9_readVisit_208 (by decide) (fun hc => ?_) (fun hc => ?_)
          · have hq := tw_it hq hc
            exact ih_5 r0 z H locs ls hr0 hM (lv_sub hl [0] rfl) hq
          · have hq := tw_if hq hc
            refine lv_aload_n hx hb dcX9_readVisit_211 rfl (lv_at hl 0 rfl) ?_
            refine vgX9_9 hx hb hT hown hK hM hr0 dcX9_readVisit_212 ?_
            refine lv_aload_n hx hb dcX9_readVisit_215 rfl (lv_at hl 0 rfl) ?_
            refine vgX9_37 hx hb hT hown hK hM hr0 hq dcX9_readVisit_216 (fun v36 hq => ?_)
            refine uw_bald cX_ok hx hb hK hM (cr_X9_1 hr0) hq dcX9_readVisit_219 (fun v37 hq => ?_)
            refine lv_bipush (v := 45) hx hb dcX9_readVisit_220 (by decide) ?_
            refine lv_icmp_eq (tgt := 230) hx hb dcX9_readVisit_222 (by decide) (fun hc => ?_) (fun hc => ?_)
            · have hq := tw_it hq hc
              exact ih_5 r0 z H locs ls hr0 hM (lv_sub hl [0] rfl) hq
            · have hq := tw_if hq hc
              exact ih_4 r0 z H locs ls hr0 hM (lv_sub hl [0] rfl) hq
      · intro r0 z H locs ls hr0 hM hl hq
        have hq : cm_X9_readVisit_4 vl K (c_X9_readVisit vl K k) r0 z = some (r, z1) := hq
        unfold cm_X9_readVisit_4 at hq
        refine lv_aload_n hx hb dcX9_readVisit_225 rfl (lv_at hl 0 rfl) ?_
        refine vgX9_37 hx hb hT hown hK hM hr0 hq dcX9_readVisit_226 (fun v38 hq => ?_)
        exact cw_iret hx hb hr hlocks hM hq hQQ dcX9_readVisit_229
      · intro r0 z H locs ls hr0 hM hl hq
        have hq : cm_X9_readVisit_5 vl K (c_X9_readVisit vl K k) r0 z = some (r, z1) := hq
        unfold cm_X9_readVisit_5 at hq
        refine lv_aload_n hx hb dcX9_readVisit_230 rfl (lv_at hl 0 rfl) ?_
        refine lv_dup hx hb dcX9_readVisit_231 rfl ?_
        refine vgX9_37 hx hb hT hown hK hM hr0 hq dcX9_readVisit_232 (fun v39 hq => ?_)
        refine lv_iconst (v := 1) hx hb dcX9_readVisit_235 (by decide) ?_
        refine lv_iadd hx hb dcX9_readVisit_236 ?_
        refine vpX9_37 hx hb hT hown hK hM hU hr0 hq dcX9_readVisit_237 (fun z40 H locs hM hq => ?_)
        refine lv_iconst (v := (-1)) hx hb dcX9_readVisit_240 (by decide) ?_
        exact cw_iret hx hb hr hlocks hM hq hQQ dcX9_readVisit_241
  exact (key K).1 r0 z s.heap [] ls hr0 hM (lv_sub hl [0] rfl) hq
theorem dcX9_readDiagram_0 : decode cX9_readDiagram 0 = .ok (.aload_n 0, 1) := dw_at cX9_readDiagram_k0 (p := 0) rfl (by decide +kernel)
theorem dcX9_readDiagram_1 : decode cX9_readDiagram 1 = .ok (.getfield 15, 3) := dw_at cX9_readDiagram_k0 (p := 1) rfl (by decide +kernel)
theorem dcX9_readDiagram_4 : decode cX9_readDiagram 4 = .ok (.iconst (-1), 1) := dw_at cX9_readDiagram_k0 (p := 4) rfl (by decide +kernel)
theorem dcX9_readDiagram_5 : decode cX9_readDiagram 5 = .ok (.invokestatic 26, 3) := dw_at cX9_readDiagram_k0 (p := 5) rfl (by decide +kernel)
theorem dcX9_readDiagram_8 : decode cX9_readDiagram 8 = .ok (.aload_n 0, 1) := dw_at cX9_readDiagram_k0 (p := 8) rfl (by decide +kernel)
theorem dcX9_readDiagram_9 : decode cX9_readDiagram 9 = .ok (.getfield 19, 3) := dw_at cX9_readDiagram_k0 (p := 9) rfl (by decide +kernel)
theorem dcX9_readDiagram_12 : decode cX9_readDiagram 12 = .ok (.iconst (-1), 1) := dw_at cX9_readDiagram_k0 (p := 12) rfl (by decide +kernel)
theorem dcX9_readDiagram_13 : decode cX9_readDiagram 13 = .ok (.invokestatic 26, 3) := dw_at cX9_readDiagram_k0 (p := 13) rfl (by decide +kernel)
theorem dcX9_readDiagram_16 : decode cX9_readDiagram 16 = .ok (.aload_n 1, 1) := dw_at cX9_readDiagram_k0 (p := 16) rfl (by decide +kernel)
theorem dcX9_readDiagram_17 : decode cX9_readDiagram 17 = .ok (.invokevirtual 32, 3) := dw_at cX9_readDiagram_k0 (p := 17) rfl (by decide +kernel)
theorem dcX9_readDiagram_20 : decode cX9_readDiagram 20 = .ok (.aload_n 0, 1) := dw_at cX9_readDiagram_k0 (p := 20) rfl (by decide +kernel)
theorem dcX9_readDiagram_21 : decode cX9_readDiagram 21 = .ok (.iconst 0, 1) := dw_at cX9_readDiagram_k0 (p := 21) rfl (by decide +kernel)
theorem dcX9_readDiagram_22 : decode cX9_readDiagram 22 = .ok (.putfield 37, 3) := dw_at cX9_readDiagram_k0 (p := 22) rfl (by decide +kernel)
theorem dcX9_readDiagram_25 : decode cX9_readDiagram 25 = .ok (.iconst 1, 1) := dw_at cX9_readDiagram_k1 (p := 0) rfl (by decide +kernel)
theorem dcX9_readDiagram_26 : decode cX9_readDiagram 26 = .ok (.istore_n 2, 1) := dw_at cX9_readDiagram_k1 (p := 1) rfl (by decide +kernel)
theorem dcX9_readDiagram_27 : decode cX9_readDiagram 27 = .ok (.iconst (-1), 1) := dw_at cX9_readDiagram_k1 (p := 2) rfl (by decide +kernel)
theorem dcX9_readDiagram_28 : decode cX9_readDiagram 28 = .ok (.istore_n 3, 1) := dw_at cX9_readDiagram_k1 (p := 3) rfl (by decide +kernel)
theorem dcX9_readDiagram_29 : decode cX9_readDiagram 29 = .ok (.iconst (-1), 1) := dw_at cX9_readDiagram_k1 (p := 4) rfl (by decide +kernel)
theorem dcX9_readDiagram_30 : decode cX9_readDiagram 30 = .ok (.istore 4, 2) := dw_at cX9_readDiagram_k1 (p := 5) rfl (by decide +kernel)
theorem dcX9_readDiagram_32 : decode cX9_readDiagram 32 = .ok (.iconst 0, 1) := dw_at cX9_readDiagram_k1 (p := 7) rfl (by decide +kernel)
theorem dcX9_readDiagram_33 : decode cX9_readDiagram 33 = .ok (.istore 5, 2) := dw_at cX9_readDiagram_k1 (p := 8) rfl (by decide +kernel)
theorem dcX9_readDiagram_35 : decode cX9_readDiagram 35 = .ok (.iload 5, 2) := dw_at cX9_readDiagram_k1 (p := 10) rfl (by decide +kernel)
theorem dcX9_readDiagram_37 : decode cX9_readDiagram 37 = .ok (.sipush 400, 3) := dw_at cX9_readDiagram_k1 (p := 12) rfl (by decide +kernel)
theorem dcX9_readDiagram_40 : decode cX9_readDiagram 40 = .ok (.if_icmp .ge 132, 3) := dw_at cX9_readDiagram_k1 (p := 15) rfl (by decide +kernel)
theorem dcX9_readDiagram_43 : decode cX9_readDiagram 43 = .ok (.aload_n 0, 1) := dw_at cX9_readDiagram_k1 (p := 18) rfl (by decide +kernel)
theorem dcX9_readDiagram_44 : decode cX9_readDiagram 44 = .ok (.getfield 37, 3) := dw_at cX9_readDiagram_k1 (p := 19) rfl (by decide +kernel)
theorem dcX9_readDiagram_47 : decode cX9_readDiagram 47 = .ok (.aload_n 0, 1) := dw_at cX9_readDiagram_k1 (p := 22) rfl (by decide +kernel)
theorem dcX9_readDiagram_48 : decode cX9_readDiagram 48 = .ok (.getfield 22, 3) := dw_at cX9_readDiagram_k1 (p := 23) rfl (by decide +kernel)
theorem dcX9_readDiagram_51 : decode cX9_readDiagram 51 = .ok (.if_icmp .ge 121, 3) := dw_at cX9_readDiagram_k2 (p := 0) rfl (by decide +kernel)
theorem dcX9_readDiagram_54 : decode cX9_readDiagram 54 = .ok (.aload_n 0, 1) := dw_at cX9_readDiagram_k2 (p := 3) rfl (by decide +kernel)
theorem dcX9_readDiagram_55 : decode cX9_readDiagram 55 = .ok (.getfield 37, 3) := dw_at cX9_readDiagram_k2 (p := 4) rfl (by decide +kernel)
theorem dcX9_readDiagram_58 : decode cX9_readDiagram 58 = .ok (.istore 6, 2) := dw_at cX9_readDiagram_k2 (p := 7) rfl (by decide +kernel)
theorem dcX9_readDiagram_60 : decode cX9_readDiagram 60 = .ok (.aload_n 0, 1) := dw_at cX9_readDiagram_k2 (p := 9) rfl (by decide +kernel)
theorem dcX9_readDiagram_61 : decode cX9_readDiagram 61 = .ok (.getfield 9, 3) := dw_at cX9_readDiagram_k2 (p := 10) rfl (by decide +kernel)
theorem dcX9_readDiagram_64 : decode cX9_readDiagram 64 = .ok (.aload_n 0, 1) := dw_at cX9_readDiagram_k2 (p := 13) rfl (by decide +kernel)
theorem dcX9_readDiagram_65 : decode cX9_readDiagram 65 = .ok (.getfield 37, 3) := dw_at cX9_readDiagram_k2 (p := 14) rfl (by decide +kernel)
theorem dcX9_readDiagram_68 : decode cX9_readDiagram 68 = .ok (.baload, 1) := dw_at cX9_readDiagram_k2 (p := 17) rfl (by decide +kernel)
theorem dcX9_readDiagram_69 : decode cX9_readDiagram 69 = .ok (.bipush 59, 2) := dw_at cX9_readDiagram_k2 (p := 18) rfl (by decide +kernel)
theorem dcX9_readDiagram_71 : decode cX9_readDiagram 71 = .ok (.if_icmp .ne 39, 3) := dw_at cX9_readDiagram_k2 (p := 20) rfl (by decide +kernel)
theorem dcX9_readDiagram_74 : decode cX9_readDiagram 74 = .ok (.iinc 2 1, 3) := dw_at cX9_readDiagram_k2 (p := 23) rfl (by decide +kernel)
theorem dcX9_readDiagram_77 : decode cX9_readDiagram 77 = .ok (.iload_n 2, 1) := dw_at cX9_readDiagram_k3 (p := 0) rfl (by decide +kernel)
theorem dcX9_readDiagram_78 : decode cX9_readDiagram 78 = .ok (.bipush 6, 2) := dw_at cX9_readDiagram_k3 (p := 1) rfl (by decide +kernel)
theorem dcX9_readDiagram_80 : decode cX9_readDiagram 80 = .ok (.if_icmp .le 8, 3) := dw_at cX9_readDiagram_k3 (p := 3) rfl (by decide +kernel)
theorem dcX9_readDiagram_83 : decode cX9_readDiagram 83 = .ok (.aload_n 0, 1) := dw_at cX9_readDiagram_k3 (p := 6) rfl (by decide +kernel)
theorem dcX9_readDiagram_84 : decode cX9_readDiagram 84 = .ok (.getfield 37, 3) := dw_at cX9_readDiagram_k3 (p := 7) rfl (by decide +kernel)
theorem dcX9_readDiagram_87 : decode cX9_readDiagram 87 = .ok (.ireturn, 1) := dw_at cX9_readDiagram_k3 (p := 10) rfl (by decide +kernel)
theorem dcX9_readDiagram_88 : decode cX9_readDiagram 88 = .ok (.aload_n 1, 1) := dw_at cX9_readDiagram_k3 (p := 11) rfl (by decide +kernel)
theorem dcX9_readDiagram_89 : decode cX9_readDiagram 89 = .ok (.iload_n 3, 1) := dw_at cX9_readDiagram_k3 (p := 12) rfl (by decide +kernel)
theorem dcX9_readDiagram_90 : decode cX9_readDiagram 90 = .ok (.iload 4, 2) := dw_at cX9_readDiagram_k3 (p := 13) rfl (by decide +kernel)
theorem dcX9_readDiagram_92 : decode cX9_readDiagram 92 = .ok (.invokestatic 40, 3) := dw_at cX9_readDiagram_k3 (p := 15) rfl (by decide +kernel)
theorem dcX9_readDiagram_95 : decode cX9_readDiagram 95 = .ok (.iconst (-1), 1) := dw_at cX9_readDiagram_k3 (p := 18) rfl (by decide +kernel)
theorem dcX9_readDiagram_96 : decode cX9_readDiagram 96 = .ok (.istore_n 3, 1) := dw_at cX9_readDiagram_k3 (p := 19) rfl (by decide +kernel)
theorem dcX9_readDiagram_97 : decode cX9_readDiagram 97 = .ok (.aload_n 0, 1) := dw_at cX9_readDiagram_k3 (p := 20) rfl (by decide +kernel)
theorem dcX9_readDiagram_98 : decode cX9_readDiagram 98 = .ok (.dup, 1) := dw_at cX9_readDiagram_k3 (p := 21) rfl (by decide +kernel)
theorem dcX9_readDiagram_99 : decode cX9_readDiagram 99 = .ok (.getfield 37, 3) := dw_at cX9_readDiagram_k3 (p := 22) rfl (by decide +kernel)
theorem dcX9_readDiagram_102 : decode cX9_readDiagram 102 = .ok (.iconst 1, 1) := dw_at cX9_readDiagram_k4 (p := 0) rfl (by decide +kernel)
theorem dcX9_readDiagram_103 : decode cX9_readDiagram 103 = .ok (.iadd, 1) := dw_at cX9_readDiagram_k4 (p := 1) rfl (by decide +kernel)
theorem dcX9_readDiagram_104 : decode cX9_readDiagram 104 = .ok (.putfield 37, 3) := dw_at cX9_readDiagram_k4 (p := 2) rfl (by decide +kernel)
theorem dcX9_readDiagram_107 : decode cX9_readDiagram 107 = .ok (.goto 59, 3) := dw_at cX9_readDiagram_k4 (p := 5) rfl (by decide +kernel)
theorem dcX9_readDiagram_110 : decode cX9_readDiagram 110 = .ok (.aload_n 0, 1) := dw_at cX9_readDiagram_k4 (p := 8) rfl (by decide +kernel)
theorem dcX9_readDiagram_111 : decode cX9_readDiagram 111 = .ok (.invokevirtual 44, 3) := dw_at cX9_readDiagram_k4 (p := 9) rfl (by decide +kernel)
theorem dcX9_readDiagram_114 : decode cX9_readDiagram 114 = .ok (.istore 7, 2) := dw_at cX9_readDiagram_k4 (p := 12) rfl (by decide +kernel)
theorem dcX9_readDiagram_116 : decode cX9_readDiagram 116 = .ok (.iload 7, 2) := dw_at cX9_readDiagram_k4 (p := 14) rfl (by decide +kernel)
theorem dcX9_readDiagram_118 : decode cX9_readDiagram 118 = .ok (.iconst (-1), 1) := dw_at cX9_readDiagram_k4 (p := 16) rfl (by decide +kernel)
theorem dcX9_readDiagram_119 : decode cX9_readDiagram 119 = .ok (.if_icmp .eq 6, 3) := dw_at cX9_readDiagram_k4 (p := 17) rfl (by decide +kernel)
theorem dcX9_readDiagram_122 : decode cX9_readDiagram 122 = .ok (.iload 7, 2) := dw_at cX9_readDiagram_k4 (p := 20) rfl (by decide +kernel)
theorem dcX9_readDiagram_124 : decode cX9_readDiagram 124 = .ok (.ireturn, 1) := dw_at cX9_readDiagram_k4 (p := 22) rfl (by decide +kernel)
theorem dcX9_readDiagram_125 : decode cX9_readDiagram 125 = .ok (.aload_n 0, 1) := dw_at cX9_readDiagram_k4 (p := 23) rfl (by decide +kernel)
theorem dcX9_readDiagram_126 : decode cX9_readDiagram 126 = .ok (.aload_n 1, 1) := dw_at cX9_readDiagram_k5 (p := 0) rfl (by decide +kernel)
theorem dcX9_readDiagram_127 : decode cX9_readDiagram 127 = .ok (.iload 6, 2) := dw_at cX9_readDiagram_k5 (p := 1) rfl (by decide +kernel)
theorem dcX9_readDiagram_129 : decode cX9_readDiagram 129 = .ok (.invokevirtual 48, 3) := dw_at cX9_readDiagram_k5 (p := 3) rfl (by decide +kernel)
theorem dcX9_readDiagram_132 : decode cX9_readDiagram 132 = .ok (.istore 8, 2) := dw_at cX9_readDiagram_k5 (p := 6) rfl (by decide +kernel)
theorem dcX9_readDiagram_134 : decode cX9_readDiagram 134 = .ok (.iload 8, 2) := dw_at cX9_readDiagram_k5 (p := 8) rfl (by decide +kernel)
theorem dcX9_readDiagram_136 : decode cX9_readDiagram 136 = .ok (.iconst (-1), 1) := dw_at cX9_readDiagram_k5 (p := 10) rfl (by decide +kernel)
theorem dcX9_readDiagram_137 : decode cX9_readDiagram 137 = .ok (.if_icmp .ne 6, 3) := dw_at cX9_readDiagram_k5 (p := 11) rfl (by decide +kernel)
theorem dcX9_readDiagram_140 : decode cX9_readDiagram 140 = .ok (.iload 6, 2) := dw_at cX9_readDiagram_k5 (p := 14) rfl (by decide +kernel)
theorem dcX9_readDiagram_142 : decode cX9_readDiagram 142 = .ok (.ireturn, 1) := dw_at cX9_readDiagram_k5 (p := 16) rfl (by decide +kernel)
theorem dcX9_readDiagram_143 : decode cX9_readDiagram 143 = .ok (.iload_n 3, 1) := dw_at cX9_readDiagram_k5 (p := 17) rfl (by decide +kernel)
theorem dcX9_readDiagram_144 : decode cX9_readDiagram 144 = .ok (.iconst (-1), 1) := dw_at cX9_readDiagram_k5 (p := 18) rfl (by decide +kernel)
theorem dcX9_readDiagram_145 : decode cX9_readDiagram 145 = .ok (.if_icmp .ne 9, 3) := dw_at cX9_readDiagram_k5 (p := 19) rfl (by decide +kernel)
theorem dcX9_readDiagram_148 : decode cX9_readDiagram 148 = .ok (.iload 8, 2) := dw_at cX9_readDiagram_k5 (p := 22) rfl (by decide +kernel)
theorem dcX9_readDiagram_150 : decode cX9_readDiagram 150 = .ok (.istore_n 3, 1) := dw_at cX9_readDiagram_k6 (p := 0) rfl (by decide +kernel)
theorem dcX9_readDiagram_151 : decode cX9_readDiagram 151 = .ok (.goto 11, 3) := dw_at cX9_readDiagram_k6 (p := 1) rfl (by decide +kernel)
theorem dcX9_readDiagram_154 : decode cX9_readDiagram 154 = .ok (.aload_n 1, 1) := dw_at cX9_readDiagram_k6 (p := 4) rfl (by decide +kernel)
theorem dcX9_readDiagram_155 : decode cX9_readDiagram 155 = .ok (.iload 4, 2) := dw_at cX9_readDiagram_k6 (p := 5) rfl (by decide +kernel)
theorem dcX9_readDiagram_157 : decode cX9_readDiagram 157 = .ok (.iload 8, 2) := dw_at cX9_readDiagram_k6 (p := 7) rfl (by decide +kernel)
theorem dcX9_readDiagram_159 : decode cX9_readDiagram 159 = .ok (.invokevirtual 52, 3) := dw_at cX9_readDiagram_k6 (p := 9) rfl (by decide +kernel)
theorem dcX9_readDiagram_162 : decode cX9_readDiagram 162 = .ok (.iload 8, 2) := dw_at cX9_readDiagram_k6 (p := 12) rfl (by decide +kernel)
theorem dcX9_readDiagram_164 : decode cX9_readDiagram 164 = .ok (.istore 4, 2) := dw_at cX9_readDiagram_k6 (p := 14) rfl (by decide +kernel)
theorem dcX9_readDiagram_166 : decode cX9_readDiagram 166 = .ok (.iinc 5 1, 3) := dw_at cX9_readDiagram_k6 (p := 16) rfl (by decide +kernel)
theorem dcX9_readDiagram_169 : decode cX9_readDiagram 169 = .ok (.goto (-134), 3) := dw_at cX9_readDiagram_k6 (p := 19) rfl (by decide +kernel)
theorem dcX9_readDiagram_172 : decode cX9_readDiagram 172 = .ok (.aload_n 1, 1) := dw_at cX9_readDiagram_k6 (p := 22) rfl (by decide +kernel)
theorem dcX9_readDiagram_173 : decode cX9_readDiagram 173 = .ok (.iload_n 3, 1) := dw_at cX9_readDiagram_k6 (p := 23) rfl (by decide +kernel)
theorem dcX9_readDiagram_174 : decode cX9_readDiagram 174 = .ok (.iload 4, 2) := dw_at cX9_readDiagram_k7 (p := 0) rfl (by decide +kernel)
theorem dcX9_readDiagram_176 : decode cX9_readDiagram 176 = .ok (.invokestatic 40, 3) := dw_at cX9_readDiagram_k7 (p := 2) rfl (by decide +kernel)
theorem dcX9_readDiagram_179 : decode cX9_readDiagram 179 = .ok (.aload_n 0, 1) := dw_at cX9_readDiagram_k7 (p := 5) rfl (by decide +kernel)
theorem dcX9_readDiagram_180 : decode cX9_readDiagram 180 = .ok (.aload_n 1, 1) := dw_at cX9_readDiagram_k7 (p := 6) rfl (by decide +kernel)
theorem dcX9_readDiagram_181 : decode cX9_readDiagram 181 = .ok (.invokevirtual 56, 3) := dw_at cX9_readDiagram_k7 (p := 7) rfl (by decide +kernel)
theorem dcX9_readDiagram_184 : decode cX9_readDiagram 184 = .ok (.ireturn, 1) := dw_at cX9_readDiagram_k7 (p := 10) rfl (by decide +kernel)
def cm_X9_readDiagram_0 (vl : Nat → Nat) (K : Nat) (go : Nat → Int32 → Int32 → Int32 → Int32 → Int32 → Int32 → Int32 → Nat → Nat → ow_MS → Option (Int32 × ow_MS)) (x2 : Int32) (x3 : Int32) (x4 : Int32) (x5 : Int32) (x6 : Int32) (x7 : Int32) (x8 : Int32) (r0 : Nat) (r1 : Nat) (z : ow_MS) : Option (Int32 × ow_MS) :=
 cs0 (ce_J7_fill_53178 vl K (r0 + 3) (-1) z) fun z1 => cs0 (ce_J7_fill_53178 vl K (r0 + 4) (-1) z1) fun z2 => cs0 (ce_X7_empty vl K r1 z2) fun z3 => wrF z3 (r0 + 5) 0 fun z4 => go 1 1 (-1) (-1) 0 0 0 0 r0 r1 z4
def cm_X9_readDiagram_1 (vl : Nat → Nat) (K : Nat) (go : Nat → Int32 → Int32 → Int32 → Int32 → Int32 → Int32 → Int32 → Nat → Nat → ow_MS → Option (Int32 × ow_MS)) (x2 : Int32) (x3 : Int32) (x4 : Int32) (x5 : Int32) (x6 : Int32) (x7 : Int32) (x8 : Int32) (r0 : Nat) (r1 : Nat) (z : ow_MS) : Option (Int32 × ow_MS) :=
 (if 400 ≤ x5 then go 4 x2 x3 x4 x5 0 0 0 r0 r1 z
 else rdF z (r0 + 5) fun v5 => rdF z (r0 + 1) fun v6 => (if v6 ≤ v5 then go 4 x2 x3 x4 x5 0 0 0 r0 r1 z
 else rdF z (r0 + 5) fun v7 => rdF z (r0 + 5) fun v8 => crI (cX vl) z (r0 + 2) v8 fun v9 => (if v9 = 59 then (if (x2 + 1) ≤ 6 then cs0 (ce_X9_finish vl K r1 x3 x4 z) fun z15 => rdF z15 (r0 + 5) fun v16 => wrF z15 (r0 + 5) (v16 + 1) fun z17 => go 3 (x2 + 1) (-1) x4 x5 v7 0 0 r0 r1 z17
 else rdF z (r0 + 5) fun v18 => some (v18, z))
 else cs1 (ce_X9_readVisit vl K r0 z) fun v11 z10 => (if v11 = (-1) then cs1 (ce_X9_enter vl K r0 r1 v7 z10) fun v13 z12 => (if v13 = (-1) then some (v7, z12)
 else (if x3 = (-1) then go 2 x2 v13 x4 x5 v7 v11 v13 r0 r1 z12
 else cs0 (ce_X7_link vl K r1 x4 v13 z12) fun z14 => go 2 x2 x3 x4 x5 v7 v11 v13 r0 r1 z14))
 else some (v11, z10)))))
def cm_X9_readDiagram_2 (vl : Nat → Nat) (K : Nat) (go : Nat → Int32 → Int32 → Int32 → Int32 → Int32 → Int32 → Int32 → Nat → Nat → ow_MS → Option (Int32 × ow_MS)) (x2 : Int32) (x3 : Int32) (x4 : Int32) (x5 : Int32) (x6 : Int32) (x7 : Int32) (x8 : Int32) (r0 : Nat) (r1 : Nat) (z : ow_MS) : Option (Int32 × ow_MS) :=
 go 3 x2 x3 x8 x5 x6 0 0 r0 r1 z
def cm_X9_readDiagram_3 (vl : Nat → Nat) (K : Nat) (go : Nat → Int32 → Int32 → Int32 → Int32 → Int32 → Int32 → Int32 → Nat → Nat → ow_MS → Option (Int32 × ow_MS)) (x2 : Int32) (x3 : Int32) (x4 : Int32) (x5 : Int32) (x6 : Int32) (x7 : Int32) (x8 : Int32) (r0 : Nat) (r1 : Nat) (z : ow_MS) : Option (Int32 × ow_MS) :=
 go 1 x2 x3 x4 (x5 + 1) 0 0 0 r0 r1 z
def cm_X9_readDiagram_4 (vl : Nat → Nat) (K : Nat) (go : Nat → Int32 → Int32 → Int32 → Int32 → Int32 → Int32 → Int32 → Nat → Nat → ow_MS → Option (Int32 × ow_MS)) (x2 : Int32) (x3 : Int32) (x4 : Int32) (x5 : Int32) (x6 : Int32) (x7 : Int32) (x8 : Int32) (r0 : Nat) (r1 : Nat) (z : ow_MS) : Option (Int32 × ow_MS) :=
 cs0 (ce_X9_finish vl K r1 x3 x4 z) fun z19 => cs1 (ce_X9_firstLonely vl K r0 r1 z19) fun v21 z20 => some (v21, z20)
def cb_X9_readDiagram (vl : Nat → Nat) (K : Nat) (go : Nat → Int32 → Int32 → Int32 → Int32 → Int32 → Int32 → Int32 → Nat → Nat → ow_MS → Option (Int32 × ow_MS)) (L : Nat) (x2 : Int32) (x3 : Int32) (x4 : Int32) (x5 : Int32) (x6 : Int32) (x7 : Int32) (x8 : Int32) (r0 : Nat) (r1 : Nat) (z : ow_MS) : Option (Int32 × ow_MS) := match L with
  | 0 => cm_X9_readDiagram_0 vl K go x2 x3 x4 x5 x6 x7 x8 r0 r1 z
  | 1 => cm_X9_readDiagram_1 vl K go x2 x3 x4 x5 x6 x7 x8 r0 r1 z
  | 2 => cm_X9_readDiagram_2 vl K go x2 x3 x4 x5 x6 x7 x8 r0 r1 z
  | 3 => cm_X9_readDiagram_3 vl K go x2 x3 x4 x5 x6 x7 x8 r0 r1 z
  | 4 => cm_X9_readDiagram_4 vl K go x2 x3 x4 x5 x6 x7 x8 r0 r1 z
  | _ => none
def c_X9_readDiagram (vl : Nat → Nat) (K : Nat) : Nat → Nat → Int32 → Int32 → Int32 → Int32 → Int32 → Int32 → Int32 → Nat → Nat → ow_MS → Option (Int32 × ow_MS)
  | 0 => fun _ _ _ _ _ _ _ _ _ _ _ => none
  | k + 1 => cb_X9_readDiagram vl K (c_X9_readDiagram vl K k)
def ce_X9_readDiagram (vl : Nat → Nat) (K : Nat) (r0 : Nat) (r1 : Nat) (z : ow_MS) : Option (Int32 × ow_MS) := c_X9_readDiagram vl K K 0 0 0 0 0 0 0 0 r0 r1 z
abbrev wc_X9_readDiagram : List Cond := .code yX9_readDiagram cX9_readDiagram 9 (some .int) :: wC
theorem cdd_X9_readDiagram : yX9_readDiagram.cls = RX9 ∧ yX9_readDiagram.cls ≠ "java/lang/invoke/MethodHandle" ∧ yX9_readDiagram.cls ≠ "java/lang/invoke/VarHandle" ∧ (parseMethodDescriptor yX9_readDiagram.desc).map (fun d => d.parameters.length) = some 1 := by decide +kernel
set_option maxHeartbeats 4000000 in
set_option maxRecDepth 100000 in
theorem kc_X9_readDiagram (l : Launch) (D : va_G) (q : Nat → ClassId) (vl u : Nat → Nat) (hU0 : tw_inj (cX vl) u) (K : Nat) (r0 : Nat) (r1 : Nat) (hr0 : cw_X9 r0) (hr1 : cw_X7 r1) (z z1 : ow_MS) (r : Int32) (hq : ce_X9_readDiagram vl K r0 r1 z = some (r, z1)) : Met l yX9_readDiagram wc_X9_readDiagram ({ frames := 2, cells := 0, slots := 0, locals := 44 } : Room) (va_Pc [.ref (u r0), .ref (u r1)] (cw_pre D q vl u z)) (va_Qi (fun x (_ : Unit) => x = r) (fun _ t => va_P D vwCl (uw (cX vl) q u z1) t.heap) (tw_A (cX vl) u)) 0 0 (tw_A (cX vl) u) := by
  refine Met.ofW (cc := cX9_readDiagram) (maxL := 9) (ret := (some .int)) (by decide) rfl ?_
  intro p e s m args below meth c s₁ B hml hv
  obtain ⟨rfl, hP, hK⟩ := hv
  have hx := B.exec
  have hb := B.bytes
  have hr := B.returns
  have hts := atoms_spec (ws := wc_X9_readDiagram) B.pre
  have hT : ∀ w ∈ wC, w.before ([.ref (u r0), .ref (u r1)] : List Value).toArray s = true := fun w h => hts w (List.mem_cons_of_mem _ h)
  have hown : s.vm.findClass RX9 = some m.cls := findClass_of_methodNamed B.named
  have hlocks := B.notSynchronized
  have hU : uw_inj (cX vl) u (tw_A (cX vl) u) := ⟨hU0, fun h hh => ⟨h, hh, rfl⟩⟩
  have hM : uw_M D vwCl (cX vl) q (tw_A (cX vl) u) s.heap u z s.heap [] := ⟨hP, va_S.rf⟩
  have hl := lv_entry ([.ref (u r0), .ref (u r1)]) (n := 9) (Nat.le_of_ble_eq_true rfl)
  rw [lg_entry_eq]
  generalize (lg_sl ([.ref (u r0), .ref (u r1)]) ++ List.replicate (9 - (lg_sl ([.ref (u r0), .ref (u r1)])).length) Slot.unset).toArray = ls at hl ⊢
  have hl : lv_has ls 9 [(0, .ref (u r0)), (1, .ref (u r1))] := hl
  refine ow_named (fun QQ hQQ => ?_)
  generalize ([.ref (u r0), .ref (u r1)] : List Value).toArray = args at hts hT hQQ ⊢
  have key : ∀ k : Nat, (∀ (x2 : Int32) (x3 : Int32) (x4 : Int32) (x5 : Int32) (x6 : Int32) (x7 : Int32) (x8 : Int32) (r0 : Nat) (r1 : Nat) (z : ow_MS) (H : Heap) (locs : List Loc) (ls : Array Slot), cw_X9 r0 → cw_X7 r1 → uw_M D vwCl (cX vl) q (tw_A (cX vl) u) s.heap u z H locs → lv_has ls 9 [(0, .ref (u r0)), (1, .ref (u r1))] → c_X9_readDiagram vl K k 0 x2 x3 x4 x5 x6 x7 x8 r0 r1 z = some (r, z1) → W p l e ({ frames := 2, cells := 0, slots := 0, locals := 44 } : Room) s m args below meth c H locs 0 0 QQ (F0 m 0 ls [])) ∧ (∀ (x2 : Int32) (x3 : Int32) (x4 : Int32) (x5 : Int32) (x6 : Int32) (x7 : Int32) (x8 : Int32) (r0 : Nat) (r1 : Nat) (z : ow_MS) (H : Heap) (locs : List Loc) (ls : Array Slot), cw_X9 r0 → cw_X7 r1 → uw_M D vwCl (cX vl) q (tw_A (cX vl) u) s.heap u z H locs → lv_has ls 9 [(0, .ref (u r0)), (1, .ref (u r1)), (2, .int x2), (3, .int x3), (4, .int x4), (5, .int x5)] → c_X9_readDiagram vl K k 1 x2 x3 x4 x5 x6 x7 x8 r0 r1 z = some (r, z1) → W p l e ({ frames := 2, cells := 0, slots := 0, locals := 44 } : Room) s m args below meth c H locs 0 0 QQ (F0 m 35 ls [])) ∧ (∀ (x2 : Int32) (x3 : Int32) (x4 : Int32) (x5 : Int32) (x6 : Int32) (x7 : Int32) (x8 : Int32) (r0 : Nat) (r1 : Nat) (z : ow_MS) (H : Heap) (locs : List Loc) (ls : Array Slot), cw_X9 r0 → cw_X7 r1 → uw_M D vwCl (cX vl) q (tw_A (cX vl) u) s.heap u z H locs → lv_has ls 9 [(0, .ref (u r0)), (1, .ref (u r1)), (2, .int x2), (3, .int x3), (4, .int x4), (5, .int x5), (6, .int x6), (7, .int x7), (8, .int x8)] → c_X9_readDiagram vl K k 2 x2 x3 x4 x5 x6 x7 x8 r0 r1 z = some (r, z1) → W p l e ({ frames := 2, cells := 0, slots := 0, locals := 44 } : Room) s m args below meth c H locs 0 0 QQ (F0 m 162 ls [])) ∧ (∀ (x2 : Int32) (x3 : Int32) (x4 : Int32) (x5 : Int32) (x6 : Int32) (x7 : Int32) (x8 : Int32) (r0 : Nat) (r1 : Nat) (z : ow_MS) (H : Heap) (locs : List Loc) (ls : Array Slot), cw_X9 r0 → cw_X7 r1 → uw_M D vwCl (cX vl) q (tw_A (cX vl) u) s.heap u z H locs → lv_has ls 9 [(0, .ref (u r0)), (1, .ref (u r1)), (2, .int x2), (3, .int x3), (4, .int x4), (5, .int x5), (6, .int x6)] → c_X9_readDiagram vl K k 3 x2 x3 x4 x5 x6 x7 x8 r0 r1 z = some (r, z1) → W p l e ({ frames := 2, cells := 0, slots := 0, locals := 44 } : Room) s m args below meth c H locs 0 0 QQ (F0 m 166 ls [])) ∧ (∀ (x2 : Int32) (x3 : Int32) (x4 : Int32) (x5 : Int32) (x6 : Int32) (x7 : Int32) (x8 : Int32) (r0 : Nat) (r1 : Nat) (z : ow_MS) (H : Heap) (locs : List Loc) (ls : Array Slot), cw_X9 r0 → cw_X7 r1 → uw_M D vwCl (cX vl) q (tw_A (cX vl) u) s.heap u z H locs → lv_has ls 9 [(0, .ref (u r0)), (1, .ref (u r1)), (2, .int x2), (3, .int x3), (4, .int x4), (5, .int x5)] → c_X9_readDiagram vl K k 4 x2 x3 x4 x5 x6 x7 x8 r0 r1 z = some (r, z1) → W p l e ({ frames := 2, cells := 0, slots := 0, locals := 44 } : Room) s m args below meth c H locs 0 0 QQ (F0 m 172 ls [])) := by
    intro k
    induction k with
    | zero => exact ⟨fun _ _ _ _ _ _ _ _ _ _ _ _ _ _ _ _ _ hq => cw_no hq, fun _ _ _ _ _ _ _ _ _ _ _ _ _ _ _ _ _ hq => cw_no hq, fun _ _ _ _ _ _ _ _ _ _ _ _ _ _ _ _ _ hq => cw_no hq, fun _ _ _ _ _ _ _ _ _ _ _ _ _ _ _ _ _ hq => cw_no hq, fun _ _ _ _ _ _ _ _ _ _ _ _ _ _ _ _ _ hq => cw_no hq⟩
    | succ k ih =>
      obtain ⟨ih_0, ih_1, ih_2, ih_3, ih_4⟩ := ih
      refine ⟨?_, ?_, ?_, ?_, ?_⟩
      · intro x2 x3 x4 x5 x6 x7 x8 r0 r1 z H locs ls hr0 hr1 hM hl hq
        have hq : cm_X9_readDiagram_0 vl K (c_X9_readDiagram vl K k) x2 x3 x4 x5 x6 x7 x8 r0 r1 z = some (r, z1) := hq
        unfold cm_X9_readDiagram_0 at hq
        refine lv_aload_n hx hb dcX9_readDiagram_0 rfl (lv_at hl 0 rfl) ?_
        refine vgX9_15 hx hb hT hown hK hM hr0 dcX9_readDiagram_1 ?_
        refine lv_iconst (v := (-1)) hx hb dcX9_readDiagram_4 (by decide) ?_
        obtain ⟨z1, hcq, hq⟩ := tw_cl0 hq
        refine uw_calv hU hM (va_runS (As := [.ref (u (r0 + 3)), .int (-1)]) (rest := []) ⟨hx, hb, hml, hown, hts⟩ (kc_J7_fill_53178 l D q vl u hU.1 K (r0 + 3) (-1) (cr_X9_2 hr0) z z1 hcq) (va_cwS 2 hts (tw_gS wC_good xq_669 xq_8 xq_9 xq_10) rfl rfl rfl cdd_J7_fill_53178 ⟨(Nat.le_of_ble_eq_true rfl), (Nat.le_of_ble_eq_true rfl)⟩) (cw_preS hK hM) rfl rfl hl.1 rfl (lv_room (Nat.le_of_ble_eq_true rfl)) dcX9_readDiagram_5 ⟨(Nat.le_of_ble_eq_true rfl), (Nat.le_of_ble_eq_true rfl)⟩) (fun H locs hM => ?_)
        refine lv_aload_n hx hb dcX9_readDiagram_8 rfl (lv_at hl 0 rfl) ?_
        refine vgX9_19 hx hb hT hown hK hM hr0 dcX9_readDiagram_9 ?_
        refine lv_iconst (v := (-1)) hx hb dcX9_readDiagram_12 (by decide) ?_
        obtain ⟨z2, hcq, hq⟩ := tw_cl0 hq
        refine uw_calv hU hM (va_runS (As := [.ref (u (r0 + 4)), .int (-1)]) (rest := []) ⟨hx, hb, hml, hown, hts⟩ (kc_J7_fill_53178 l D q vl u hU.1 K (r0 + 4) (-1) (cr_X9_3 hr0) z1 z2 hcq) (va_cwS 2 hts (tw_gS wC_good xq_669 xq_8 xq_9 xq_10) rfl rfl rfl cdd_J7_fill_53178 ⟨(Nat.le_of_ble_eq_true rfl), (Nat.le_of_ble_eq_true rfl)⟩) (cw_preS hK hM) rfl rfl hl.1 rfl (lv_room (Nat.le_of_ble_eq_true rfl)) dcX9_readDiagram_13 ⟨(Nat.le_of_ble_eq_true rfl), (Nat.le_of_ble_eq_true rfl)⟩) (fun H locs hM => ?_)
        refine lv_aload_n hx hb dcX9_readDiagram_16 rfl (lv_at hl 1 rfl) ?_
        obtain ⟨z3, hcq, hq⟩ := tw_cl0 hq
        refine uw_calv hU hM (va_runV (As := []) (rest := []) ⟨hx, hb, hml, hown, hts⟩ (kc_X7_empty l D q vl u hU.1 K r1 hr1 z2 z3 hcq) (cwV 0 hts (tw_gV wC_good xq_670 xq_591 xq_592 xq_54 xq_567) rfl rfl rfl cdd_X7_empty ⟨(Nat.le_of_ble_eq_true rfl), (Nat.le_of_ble_eq_true rfl)⟩) (cw_preV hK hM (co_X7 hr1) rfl) rfl rfl hl.1 rfl (lv_room (Nat.le_of_ble_eq_true rfl)) dcX9_readDiagram_17 ⟨(Nat.le_of_ble_eq_true rfl), (Nat.le_of_ble_eq_true rfl)⟩) (fun H locs hM => ?_)
        refine lv_aload_n hx hb dcX9_readDiagram_20 rfl (lv_at hl 0 rfl) ?_
        refine lv_iconst (v := 0) hx hb dcX9_readDiagram_21 (by decide) ?_
        refine vpX9_37 hx hb hT hown hK hM hU hr0 hq dcX9_readDiagram_22 (fun z4 H locs hM hq => ?_)
        refine lv_iconst (v := 1) hx hb dcX9_readDiagram_25 (by decide) ?_
        refine lv_istore_n (lv' := [(2, .int 1), (0, .ref (u r0)), (1, .ref (u r1))]) hx hb dcX9_readDiagram_26 rfl hl (by decide) rfl (fun ls hl => ?_)
        refine lv_iconst (v := (-1)) hx hb dcX9_readDiagram_27 (by decide) ?_
        refine lv_istore_n (lv' := [(3, .int (-1)), (2, .int 1), (0, .ref (u r0)), (1, .ref (u r1))]) hx hb dcX9_readDiagram_28 rfl hl (by decide) rfl (fun ls hl => ?_)
        refine lv_iconst (v := (-1)) hx hb dcX9_readDiagram_29 (by decide) ?_
        refine lv_istore (lv' := [(4, .int (-1)), (3, .int (-1)), (2, .int 1), (0, .ref (u r0)), (1, .ref (u r1))]) hx hb dcX9_readDiagram_30 hl (by decide) rfl (fun ls hl => ?_)
        refine lv_iconst (v := 0) hx hb dcX9_readDiagram_32 (by decide) ?_
        refine lv_istore (lv' := [(5, .int 0), (4, .int (-1)), (3, .int (-1)), (2, .int 1), (0, .ref (u r0)), (1, .ref (u r1))]) hx hb dcX9_readDiagram_33 hl (by decide) rfl (fun ls hl => ?_)
        exact ih_1 1 (-1) (-1) 0 0 0 0 r0 r1 z4 H locs ls hr0 hr1 hM (lv_sub hl [4, 5, 3, 2, 1, 0] rfl) hq
      · intro x2 x3 x4 x5 x6 x7 x8 r0 r1 z H locs ls hr0 hr1 hM hl hq
        have hq : cm_X9_readDiagram_1 vl K (c_X9_readDiagram vl K k) x2 x3 x4 x5 x6 x7 x8 r0 r1 z = some (r, z1) := hq
        unfold cm_X9_readDiagram_1 at hq
        refine lv_iload hx hb dcX9_readDiagram_35 (lv_at hl 5 rfl) ?_
        refine lv_sipush (v := 400) hx hb dcX9_readDiagram_37 (by decide) ?_
        refine lv_icmp_ge (tgt := 172) hx hb dcX9_readDiagram_40 (by decide) (fun hc => ?_) (fun hc => ?_)
        · have hq := tw_it hq hc
          exact ih_4 x2 x3 x4 x5 0 0 0 r0 r1 z H locs ls hr0 hr1 hM (lv_sub hl [0, 1, 2, 3, 4, 5] rfl) hq
        · have hq := tw_if hq hc
          refine lv_aload_n hx hb dcX9_readDiagram_43 rfl (lv_at hl 0 rfl) ?_
          refine vgX9_37 hx hb hT hown hK hM hr0 hq dcX9_readDiagram_44 (fun v5 hq => ?_)
          refine lv_aload_n hx hb dcX9_readDiagram_47 rfl (lv_at hl 0 rfl) ?_
          refine vgX9_22 hx hb hT hown hK hM hr0 hq dcX9_readDiagram_48 (fun v6 hq => ?_)
          refine lv_icmp_ge (tgt := 172) hx hb dcX9_readDiagram_51 (by decide) (fun hc => ?_) (fun hc => ?_)
          · have hq := tw_it hq hc
            exact ih_4 x2 x3 x4 x5 0 0 0 r0 r1 z H locs ls hr0 hr1 hM (lv_sub hl [0, 1, 2, 3, 4, 5] rfl) hq
          · have hq := tw_if hq hc
            refine lv_aload_n hx hb dcX9_readDiagram_54 rfl (lv_at hl 0 rfl) ?_
            refine vgX9_37 hx hb hT hown hK hM hr0 hq dcX9_readDiagram_55 (fun v7 hq => ?_)
            refine lv_istore (lv' := [(6, .int v7), (0, .ref (u r0)), (1, .ref (u r1)), (2, .int x2), (3, .int x3), (4, .int x4), (5, .int x5)]) hx hb dcX9_readDiagram_58 hl (by decide) rfl (fun ls hl => ?_)
            refine lv_aload_n hx hb dcX9_readDiagram_60 rfl (lv_at hl 1 rfl) ?_
            refine vgX9_9 hx hb hT hown hK hM hr0 dcX9_readDiagram_61 ?_
            refine lv_aload_n hx hb dcX9_readDiagram_64 rfl (lv_at hl 1 rfl) ?_
            refine vgX9_37 hx hb hT hown hK hM hr0 hq dcX9_readDiagram_65 (fun v8 hq => ?_)
            refine uw_bald cX_ok hx hb hK hM (cr_X9_1 hr0) hq dcX9_readDiagram_68 (fun v9 hq => ?_)
            refine lv_bipush (v := 59) hx hb dcX9_readDiagram_69 (by decide) ?_
            refine lv_icmp_ne (tgt := 110) hx hb dcX9_readDiagram_71 (by decide) (fun hc => ?_) (fun hc => ?_)
            · have hq := tw_if hq hc
              refine lv_aload_n hx hb dcX9_readDiagram_110 rfl (lv_at hl 1 rfl) ?_
              obtain ⟨v11, z10, hcq, hq⟩ := tw_cl1 hq
              refine uw_cali hU hM (va_runV (As := []) (rest := []) ⟨hx, hb, hml, hown, hts⟩ (kc_X9_readVisit l D q vl u hU.1 K r0 hr0 z z10 v11 hcq) (cwV 0 hts (tw_gV wC_good xq_677 xq_678 xq_679 xq_673 xq_680) rfl rfl rfl cdd_X9_readVisit ⟨(Nat.le_of_ble_eq_true rfl), (Nat.le_of_ble_eq_true rfl)⟩) (cw_preV hK hM (co_X9 hr0) rfl) rfl rfl hl.1 rfl (lv_room (Nat.le_of_ble_eq_true rfl)) dcX9_readDiagram_111 ⟨(Nat.le_of_ble_eq_true rfl), (Nat.le_of_ble_eq_true rfl)⟩) (fun H locs hM => ?_)
              refine lv_istore (lv' := [(7, .int v11), (6, .int v7), (0, .ref (u r0)), (1, .ref (u r1)), (2, .int x2), (3, .int x3), (4, .int x4), (5, .int x5)]) hx hb dcX9_readDiagram_114 hl (by decide) rfl (fun ls hl => ?_)
              refine lv_iload hx hb dcX9_readDiagram_116 (lv_at hl 0 rfl) ?_
              refine lv_iconst (v := (-1)) hx hb dcX9_readDiagram_118 (by decide) ?_
              refine lv_icmp_eq (tgt := 125) hx hb dcX9_readDiagram_119 (by decide) (fun hc => ?_) (fun hc => ?_)
              · have hq := tw_it hq hc
                refine lv_aload_n hx hb dcX9_readDiagram_125 rfl (lv_at hl 2 rfl) ?_
                refine lv_aload_n hx hb dcX9_readDiagram_126 rfl (lv_at hl 3 rfl) ?_
                refine lv_iload hx hb dcX9_readDiagram_127 (lv_at hl 1 rfl) ?_
                obtain ⟨v13, z12, hcq, hq⟩ := tw_cl1 hq
                refine uw_cali hU hM (va_runV (As := [.ref (u r1), .int v7]) (rest := []) ⟨hx, hb, hml, hown, hts⟩ (kc_X9_enter l D q vl u hU.1 K r0 r1 v7 hr0 hr1 z10 z12 v13 hcq) (cwV 2 hts (tw_gV wC_good xq_682 xq_683 xq_684 xq_673 xq_685) rfl rfl rfl cdd_X9_enter ⟨(Nat.le_of_ble_eq_true rfl), (Nat.le_of_ble_eq_true rfl)⟩) (cw_preV hK hM (co_X9 hr0) rfl) rfl rfl hl.1 rfl (lv_room (Nat.le_of_ble_eq_true rfl)) dcX9_readDiagram_129 ⟨(Nat.le_of_ble_eq_true rfl), (Nat.le_of_ble_eq_true rfl)⟩) (fun H locs hM => ?_)
                refine lv_istore (lv' := [(8, .int v13), (7, .int v11), (6, .int v7), (0, .ref (u r0)), (1, .ref (u r1)), (2, .int x2), (3, .int x3), (4, .int x4), (5, .int x5)]) hx hb dcX9_readDiagram_132 hl (by decide) rfl (fun ls hl => ?_)
                refine lv_iload hx hb dcX9_readDiagram_134 (lv_at hl 0 rfl) ?_
                refine lv_iconst (v := (-1)) hx hb dcX9_readDiagram_136 (by decide) ?_
                refine lv_icmp_ne (tgt := 143) hx hb dcX9_readDiagram_137 (by decide) (fun hc => ?_) (fun hc => ?_)
                · have hq := tw_if hq hc
                  refine lv_iload_n hx hb dcX9_readDiagram_143 rfl (lv_at hl 6 rfl) ?_
                  refine lv_iconst (v := (-1)) hx hb dcX9_readDiagram_144 (by decide) ?_
                  refine lv_icmp_ne (tgt := 154) hx hb dcX9_readDiagram_145 (by decide) (fun hc => ?_) (fun hc => ?_)
                  · have hq := tw_if hq hc
                    refine lv_aload_n hx hb dcX9_readDiagram_154 rfl (lv_at hl 4 rfl) ?_
                    refine lv_iload hx hb dcX9_readDiagram_155 (lv_at hl 7 rfl) ?_
                    refine lv_iload hx hb dcX9_readDiagram_157 (lv_at hl 0 rfl) ?_
                    obtain ⟨z14, hcq, hq⟩ := tw_cl0 hq
                    refine uw_calv hU hM (va_runV (As := [.int x4, .int v13]) (rest := []) ⟨hx, hb, hml, hown, hts⟩ (kc_X7_link l D q vl u hU.1 K r1 x4 v13 hr1 z12 z14 hcq) (cwV 2 hts (tw_gV wC_good xq_676 xq_161 xq_162 xq_54 xq_163) rfl rfl rfl cdd_X7_link ⟨(Nat.le_of_ble_eq_true rfl), (Nat.le_of_ble_eq_true rfl)⟩) (cw_preV hK hM (co_X7 hr1) rfl) rfl rfl hl.1 rfl (lv_room (Nat.le_of_ble_eq_true rfl)) dcX9_readDiagram_159 ⟨(Nat.le_of_ble_eq_true rfl), (Nat.le_of_ble_eq_true rfl)⟩) (fun H locs hM => ?_)
                    exact ih_2 x2 x3 x4 x5 v7 v11 v13 r0 r1 z14 H locs ls hr0 hr1 hM (lv_sub hl [3, 4, 5, 6, 7, 8, 2, 1, 0] rfl) hq
                  · have hq := tw_it hq hc
                    refine lv_iload hx hb dcX9_readDiagram_148 (lv_at hl 0 rfl) ?_
                    refine lv_istore_n (lv' := [(3, .int v13), (8, .int v13), (7, .int v11), (6, .int v7), (0, .ref (u r0)), (1, .ref (u r1)), (2, .int x2), (4, .int x4), (5, .int x5)]) hx hb dcX9_readDiagram_150 rfl hl (by decide) rfl (fun ls hl => ?_)
                    refine lv_goto (tgt := 162) hx hb dcX9_readDiagram_151 (by decide) ?_
                    exact ih_2 x2 v13 x4 x5 v7 v11 v13 r0 r1 z12 H locs ls hr0 hr1 hM (lv_sub hl [4, 5, 6, 0, 7, 8, 3, 2, 1] rfl) hq
                · have hq := tw_it hq hc
                  refine lv_iload hx hb dcX9_readDiagram_140 (lv_at hl 2 rfl) ?_
                  exact cw_iret hx hb hr hlocks hM hq hQQ dcX9_readDiagram_142
              · have hq := tw_if hq hc
                refine lv_iload hx hb dcX9_readDiagram_122 (lv_at hl 0 rfl) ?_
                exact cw_iret hx hb hr hlocks hM hq hQQ dcX9_readDiagram_124
            · have hq := tw_it hq hc
              refine lv_iinc (v := (x2 + 1)) (lv' := [(2, .int (x2 + 1)), (6, .int v7), (0, .ref (u r0)), (1, .ref (u r1)), (3, .int x3), (4, .int x4), (5, .int x5)]) hx hb dcX9_readDiagram_74 hl (k := 3) rfl rfl (by decide) rfl (fun ls hl => ?_)
              refine lv_iload_n hx hb dcX9_readDiagram_77 rfl (lv_at hl 0 rfl) ?_
              refine lv_bipush (v := 6) hx hb dcX9_readDiagram_78 (by decide) ?_
              refine lv_icmp_le (tgt := 88) hx hb dcX9_readDiagram_80 (by decide) (fun hc => ?_) (fun hc => ?_)
              · have hq := tw_it hq hc
                refine lv_aload_n hx hb dcX9_readDiagram_88 rfl (lv_at hl 3 rfl) ?_
                refine lv_iload_n hx hb dcX9_readDiagram_89 rfl (lv_at hl 4 rfl) ?_
                refine lv_iload hx hb dcX9_readDiagram_90 (lv_at hl 5 rfl) ?_
                obtain ⟨z15, hcq, hq⟩ := tw_cl0 hq
                refine uw_calv hU hM (va_runS (As := [.ref (u r1), .int x3, .int x4]) (rest := []) ⟨hx, hb, hml, hown, hts⟩ (kc_X9_finish l D q vl u hU.1 K r1 x3 x4 hr1 z z15 hcq) (va_cwS 3 hts (tw_gS wC_good xq_671 xq_672 xq_673 xq_674) rfl rfl rfl cdd_X9_finish ⟨(Nat.le_of_ble_eq_true rfl), (Nat.le_of_ble_eq_true rfl)⟩) (cw_preS hK hM) rfl rfl hl.1 rfl (lv_room (Nat.le_of_ble_eq_true rfl)) dcX9_readDiagram_92 ⟨(Nat.le_of_ble_eq_true rfl), (Nat.le_of_ble_eq_true rfl)⟩) (fun H locs hM => ?_)
                refine lv_iconst (v := (-1)) hx hb dcX9_readDiagram_95 (by decide) ?_
                refine lv_istore_n (lv' := [(3, .int (-1)), (2, .int (x2 + 1)), (6, .int v7), (0, .ref (u r0)), (1, .ref (u r1)), (4, .int x4), (5, .int x5)]) hx hb dcX9_readDiagram_96 rfl hl (by decide) rfl (fun ls hl => ?_)
                refine lv_aload_n hx hb dcX9_readDiagram_97 rfl (lv_at hl 3 rfl) ?_
                refine lv_dup hx hb dcX9_readDiagram_98 rfl ?_
                refine vgX9_37 hx hb hT hown hK hM hr0 hq dcX9_readDiagram_99 (fun v16 hq => ?_)
                refine lv_iconst (v := 1) hx hb dcX9_readDiagram_102 (by decide) ?_
                refine lv_iadd hx hb dcX9_readDiagram_103 ?_
                refine vpX9_37 hx hb hT hown hK hM hU hr0 hq dcX9_readDiagram_104 (fun z17 H locs hM hq => ?_)
                refine lv_goto (tgt := 166) hx hb dcX9_readDiagram_107 (by decide) ?_
                exact ih_3 (x2 + 1) (-1) x4 x5 v7 0 0 r0 r1 z17 H locs ls hr0 hr1 hM (lv_sub hl [3, 4, 1, 0, 5, 6, 2] rfl) hq
              · have hq := tw_if hq hc
                refine lv_aload_n hx hb dcX9_readDiagram_83 rfl (lv_at hl 2 rfl) ?_
                refine vgX9_37 hx hb hT hown hK hM hr0 hq dcX9_readDiagram_84 (fun v18 hq => ?_)
                exact cw_iret hx hb hr hlocks hM hq hQQ dcX9_readDiagram_87
      · intro x2 x3 x4 x5 x6 x7 x8 r0 r1 z H locs ls hr0 hr1 hM hl hq
        have hq : cm_X9_readDiagram_2 vl K (c_X9_readDiagram vl K k) x2 x3 x4 x5 x6 x7 x8 r0 r1 z = some (r, z1) := hq
        unfold cm_X9_readDiagram_2 at hq
        refine lv_iload hx hb dcX9_readDiagram_162 (lv_at hl 8 rfl) ?_
        refine lv_istore (lv' := [(4, .int x8), (0, .ref (u r0)), (1, .ref (u r1)), (2, .int x2), (3, .int x3), (5, .int x5), (6, .int x6), (7, .int x7), (8, .int x8)]) hx hb dcX9_readDiagram_164 hl (by decide) rfl (fun ls hl => ?_)
        exact ih_3 x2 x3 x8 x5 x6 0 0 r0 r1 z H locs ls hr0 hr1 hM (lv_sub hl [1, 2, 3, 4, 0, 5, 6] rfl) hq
      · intro x2 x3 x4 x5 x6 x7 x8 r0 r1 z H locs ls hr0 hr1 hM hl hq
        have hq : cm_X9_readDiagram_3 vl K (c_X9_readDiagram vl K k) x2 x3 x4 x5 x6 x7 x8 r0 r1 z = some (r, z1) := hq
        unfold cm_X9_readDiagram_3 at hq
        refine lv_iinc (v := (x5 + 1)) (lv' := [(5, .int (x5 + 1)), (0, .ref (u r0)), (1, .ref (u r1)), (2, .int x2), (3, .int x3), (4, .int x4), (6, .int x6)]) hx hb dcX9_readDiagram_166 hl (k := 5) rfl rfl (by decide) rfl (fun ls hl => ?_)
        refine lv_goto (tgt := 35) hx hb dcX9_readDiagram_169 (by decide) ?_
        exact ih_1 x2 x3 x4 (x5 + 1) 0 0 0 r0 r1 z H locs ls hr0 hr1 hM (lv_sub hl [1, 2, 3, 4, 5, 0] rfl) hq
      · intro x2 x3 x4 x5 x6 x7 x8 r0 r1 z H locs ls hr0 hr1 hM hl hq
        have hq : cm_X9_readDiagram_4 vl K (c_X9_readDiagram vl K k) x2 x3 x4 x5 x6 x7 x8 r0 r1 z = some (r, z1) := hq
        unfold cm_X9_readDiagram_4 at hq
        refine lv_aload_n hx hb dcX9_readDiagram_172 rfl (lv_at hl 1 rfl) ?_
        refine lv_iload_n hx hb dcX9_readDiagram_173 rfl (lv_at hl 3 rfl) ?_
        refine lv_iload hx hb dcX9_readDiagram_174 (lv_at hl 4 rfl) ?_
        obtain ⟨z19, hcq, hq⟩ := tw_cl0 hq
        refine uw_calv hU hM (va_runS (As := [.ref (u r1), .int x3, .int x4]) (rest := []) ⟨hx, hb, hml, hown, hts⟩ (kc_X9_finish l D q vl u hU.1 K r1 x3 x4 hr1 z z19 hcq) (va_cwS 3 hts (tw_gS wC_good xq_671 xq_672 xq_673 xq_674) rfl rfl rfl cdd_X9_finish ⟨(Nat.le_of_ble_eq_true rfl), (Nat.le_of_ble_eq_true rfl)⟩) (cw_preS hK hM) rfl rfl hl.1 rfl (lv_room (Nat.le_of_ble_eq_true rfl)) dcX9_readDiagram_176 ⟨(Nat.le_of_ble_eq_true rfl), (Nat.le_of_ble_eq_true rfl)⟩) (fun H locs hM => ?_)
        refine lv_aload_n hx hb dcX9_readDiagram_179 rfl (lv_at hl 0 rfl) ?_
        refine lv_aload_n hx hb dcX9_readDiagram_180 rfl (lv_at hl 1 rfl) ?_
        obtain ⟨v21, z20, hcq, hq⟩ := tw_cl1 hq
        refine uw_cali hU hM (va_runV (As := [.ref (u r1)]) (rest := []) ⟨hx, hb, hml, hown, hts⟩ (kc_X9_firstLonely l D q vl u hU.1 K r0 r1 hr0 hr1 z19 z20 v21 hcq) (cwV 1 hts (tw_gV wC_good xq_688 xq_689 xq_690 xq_673 xq_691) rfl rfl rfl cdd_X9_firstLonely ⟨(Nat.le_of_ble_eq_true rfl), (Nat.le_of_ble_eq_true rfl)⟩) (cw_preV hK hM (co_X9 hr0) rfl) rfl rfl hl.1 rfl (lv_room (Nat.le_of_ble_eq_true rfl)) dcX9_readDiagram_181 ⟨(Nat.le_of_ble_eq_true rfl), (Nat.le_of_ble_eq_true rfl)⟩) (fun H locs hM => ?_)
        exact cw_iret hx hb hr hlocks hM hq hQQ dcX9_readDiagram_184
  exact (key K).1 0 0 0 0 0 0 0 r0 r1 z s.heap [] ls hr0 hr1 hM (lv_sub hl [0, 1] rfl) hq
theorem dcX9_readBraid_0 : decode cX9_readBraid 0 = .ok (.iconst 0, 1) := dw_at cX9_readBraid_k0 (p := 0) rfl (by decide +kernel)
theorem dcX9_readBraid_1 : decode cX9_readBraid 1 = .ok (.istore 4, 2) := dw_at cX9_readBraid_k0 (p := 1) rfl (by decide +kernel)
theorem dcX9_readBraid_3 : decode cX9_readBraid 3 = .ok (.iload 4, 2) := dw_at cX9_readBraid_k0 (p := 3) rfl (by decide +kernel)
theorem dcX9_readBraid_5 : decode cX9_readBraid 5 = .ok (.aload_n 0, 1) := dw_at cX9_readBraid_k0 (p := 5) rfl (by decide +kernel)
theorem dcX9_readBraid_6 : decode cX9_readBraid 6 = .ok (.getfield 22, 3) := dw_at cX9_readBraid_k0 (p := 6) rfl (by decide +kernel)
theorem dcX9_readBraid_9 : decode cX9_readBraid 9 = .ok (.if_icmp .ge 101, 3) := dw_at cX9_readBraid_k0 (p := 9) rfl (by decide +kernel)
theorem dcX9_readBraid_12 : decode cX9_readBraid 12 = .ok (.aload_n 0, 1) := dw_at cX9_readBraid_k0 (p := 12) rfl (by decide +kernel)
theorem dcX9_readBraid_13 : decode cX9_readBraid 13 = .ok (.getfield 9, 3) := dw_at cX9_readBraid_k0 (p := 13) rfl (by decide +kernel)
theorem dcX9_readBraid_16 : decode cX9_readBraid 16 = .ok (.iload 4, 2) := dw_at cX9_readBraid_k0 (p := 16) rfl (by decide +kernel)
theorem dcX9_readBraid_18 : decode cX9_readBraid 18 = .ok (.baload, 1) := dw_at cX9_readBraid_k0 (p := 18) rfl (by decide +kernel)
theorem dcX9_readBraid_19 : decode cX9_readBraid 19 = .ok (.bipush 97, 2) := dw_at cX9_readBraid_k0 (p := 19) rfl (by decide +kernel)
theorem dcX9_readBraid_21 : decode cX9_readBraid 21 = .ok (.isub, 1) := dw_at cX9_readBraid_k0 (p := 21) rfl (by decide +kernel)
theorem dcX9_readBraid_22 : decode cX9_readBraid 22 = .ok (.istore 5, 2) := dw_at cX9_readBraid_k0 (p := 22) rfl (by decide +kernel)
theorem dcX9_readBraid_24 : decode cX9_readBraid 24 = .ok (.aload_n 0, 1) := dw_at cX9_readBraid_k1 (p := 0) rfl (by decide +kernel)
theorem dcX9_readBraid_25 : decode cX9_readBraid 25 = .ok (.getfield 9, 3) := dw_at cX9_readBraid_k1 (p := 1) rfl (by decide +kernel)
theorem dcX9_readBraid_28 : decode cX9_readBraid 28 = .ok (.iload 4, 2) := dw_at cX9_readBraid_k1 (p := 4) rfl (by decide +kernel)
theorem dcX9_readBraid_30 : decode cX9_readBraid 30 = .ok (.baload, 1) := dw_at cX9_readBraid_k1 (p := 6) rfl (by decide +kernel)
theorem dcX9_readBraid_31 : decode cX9_readBraid 31 = .ok (.bipush 65, 2) := dw_at cX9_readBraid_k1 (p := 7) rfl (by decide +kernel)
theorem dcX9_readBraid_33 : decode cX9_readBraid 33 = .ok (.isub, 1) := dw_at cX9_readBraid_k1 (p := 9) rfl (by decide +kernel)
theorem dcX9_readBraid_34 : decode cX9_readBraid 34 = .ok (.istore 6, 2) := dw_at cX9_readBraid_k1 (p := 10) rfl (by decide +kernel)
theorem dcX9_readBraid_36 : decode cX9_readBraid 36 = .ok (.iload 4, 2) := dw_at cX9_readBraid_k1 (p := 12) rfl (by decide +kernel)
theorem dcX9_readBraid_38 : decode cX9_readBraid 38 = .ok (.bipush 16, 2) := dw_at cX9_readBraid_k1 (p := 14) rfl (by decide +kernel)
theorem dcX9_readBraid_40 : decode cX9_readBraid 40 = .ok (.if_icmp .lt 6, 3) := dw_at cX9_readBraid_k1 (p := 16) rfl (by decide +kernel)
theorem dcX9_readBraid_43 : decode cX9_readBraid 43 = .ok (.iload 4, 2) := dw_at cX9_readBraid_k1 (p := 19) rfl (by decide +kernel)
theorem dcX9_readBraid_45 : decode cX9_readBraid 45 = .ok (.ireturn, 1) := dw_at cX9_readBraid_k1 (p := 21) rfl (by decide +kernel)
theorem dcX9_readBraid_46 : decode cX9_readBraid 46 = .ok (.iload 5, 2) := dw_at cX9_readBraid_k1 (p := 22) rfl (by decide +kernel)
theorem dcX9_readBraid_48 : decode cX9_readBraid 48 = .ok (.ifCond .lt 25, 3) := dw_at cX9_readBraid_k2 (p := 0) rfl (by decide +kernel)
theorem dcX9_readBraid_51 : decode cX9_readBraid 51 = .ok (.iload 5, 2) := dw_at cX9_readBraid_k2 (p := 3) rfl (by decide +kernel)
theorem dcX9_readBraid_53 : decode cX9_readBraid 53 = .ok (.iload_n 1, 1) := dw_at cX9_readBraid_k2 (p := 5) rfl (by decide +kernel)
theorem dcX9_readBraid_54 : decode cX9_readBraid 54 = .ok (.iconst 1, 1) := dw_at cX9_readBraid_k2 (p := 6) rfl (by decide +kernel)
theorem dcX9_readBraid_55 : decode cX9_readBraid 55 = .ok (.isub, 1) := dw_at cX9_readBraid_k2 (p := 7) rfl (by decide +kernel)
theorem dcX9_readBraid_56 : decode cX9_readBraid 56 = .ok (.if_icmp .ge 17, 3) := dw_at cX9_readBraid_k2 (p := 8) rfl (by decide +kernel)
theorem dcX9_readBraid_59 : decode cX9_readBraid 59 = .ok (.aload_n 2, 1) := dw_at cX9_readBraid_k2 (p := 11) rfl (by decide +kernel)
theorem dcX9_readBraid_60 : decode cX9_readBraid 60 = .ok (.iload_n 3, 1) := dw_at cX9_readBraid_k2 (p := 12) rfl (by decide +kernel)
theorem dcX9_readBraid_61 : decode cX9_readBraid 61 = .ok (.iload 4, 2) := dw_at cX9_readBraid_k2 (p := 13) rfl (by decide +kernel)
theorem dcX9_readBraid_63 : decode cX9_readBraid 63 = .ok (.iadd, 1) := dw_at cX9_readBraid_k2 (p := 15) rfl (by decide +kernel)
theorem dcX9_readBraid_64 : decode cX9_readBraid 64 = .ok (.iload 5, 2) := dw_at cX9_readBraid_k2 (p := 16) rfl (by decide +kernel)
theorem dcX9_readBraid_66 : decode cX9_readBraid 66 = .ok (.iconst 1, 1) := dw_at cX9_readBraid_k2 (p := 18) rfl (by decide +kernel)
theorem dcX9_readBraid_67 : decode cX9_readBraid 67 = .ok (.iadd, 1) := dw_at cX9_readBraid_k2 (p := 19) rfl (by decide +kernel)
theorem dcX9_readBraid_68 : decode cX9_readBraid 68 = .ok (.i2b, 1) := dw_at cX9_readBraid_k2 (p := 20) rfl (by decide +kernel)
theorem dcX9_readBraid_69 : decode cX9_readBraid 69 = .ok (.bastore, 1) := dw_at cX9_readBraid_k2 (p := 21) rfl (by decide +kernel)
theorem dcX9_readBraid_70 : decode cX9_readBraid 70 = .ok (.goto 34, 3) := dw_at cX9_readBraid_k2 (p := 22) rfl (by decide +kernel)
theorem dcX9_readBraid_73 : decode cX9_readBraid 73 = .ok (.iload 6, 2) := dw_at cX9_readBraid_k3 (p := 0) rfl (by decide +kernel)
theorem dcX9_readBraid_75 : decode cX9_readBraid 75 = .ok (.ifCond .lt 26, 3) := dw_at cX9_readBraid_k3 (p := 2) rfl (by decide +kernel)
theorem dcX9_readBraid_78 : decode cX9_readBraid 78 = .ok (.iload 6, 2) := dw_at cX9_readBraid_k3 (p := 5) rfl (by decide +kernel)
theorem dcX9_readBraid_80 : decode cX9_readBraid 80 = .ok (.iload_n 1, 1) := dw_at cX9_readBraid_k3 (p := 7) rfl (by decide +kernel)
theorem dcX9_readBraid_81 : decode cX9_readBraid 81 = .ok (.iconst 1, 1) := dw_at cX9_readBraid_k3 (p := 8) rfl (by decide +kernel)
theorem dcX9_readBraid_82 : decode cX9_readBraid 82 = .ok (.isub, 1) := dw_at cX9_readBraid_k3 (p := 9) rfl (by decide +kernel)
theorem dcX9_readBraid_83 : decode cX9_readBraid 83 = .ok (.if_icmp .ge 18, 3) := dw_at cX9_readBraid_k3 (p := 10) rfl (by decide +kernel)
theorem dcX9_readBraid_86 : decode cX9_readBraid 86 = .ok (.aload_n 2, 1) := dw_at cX9_readBraid_k3 (p := 13) rfl (by decide +kernel)
theorem dcX9_readBraid_87 : decode cX9_readBraid 87 = .ok (.iload_n 3, 1) := dw_at cX9_readBraid_k3 (p := 14) rfl (by decide +kernel)
theorem dcX9_readBraid_88 : decode cX9_readBraid 88 = .ok (.iload 4, 2) := dw_at cX9_readBraid_k3 (p := 15) rfl (by decide +kernel)
theorem dcX9_readBraid_90 : decode cX9_readBraid 90 = .ok (.iadd, 1) := dw_at cX9_readBraid_k3 (p := 17) rfl (by decide +kernel)
theorem dcX9_readBraid_91 : decode cX9_readBraid 91 = .ok (.iload 6, 2) := dw_at cX9_readBraid_k3 (p := 18) rfl (by decide +kernel)
theorem dcX9_readBraid_93 : decode cX9_readBraid 93 = .ok (.iconst 1, 1) := dw_at cX9_readBraid_k3 (p := 20) rfl (by decide +kernel)
theorem dcX9_readBraid_94 : decode cX9_readBraid 94 = .ok (.iadd, 1) := dw_at cX9_readBraid_k3 (p := 21) rfl (by decide +kernel)
theorem dcX9_readBraid_95 : decode cX9_readBraid 95 = .ok (.ineg, 1) := dw_at cX9_readBraid_k3 (p := 22) rfl (by decide +kernel)
theorem dcX9_readBraid_96 : decode cX9_readBraid 96 = .ok (.i2b, 1) := dw_at cX9_readBraid_k3 (p := 23) rfl (by decide +kernel)
theorem dcX9_readBraid_97 : decode cX9_readBraid 97 = .ok (.bastore, 1) := dw_at cX9_readBraid_k4 (p := 0) rfl (by decide +kernel)
theorem dcX9_readBraid_98 : decode cX9_readBraid 98 = .ok (.goto 6, 3) := dw_at cX9_readBraid_k4 (p := 1) rfl (by decide +kernel)
theorem dcX9_readBraid_101 : decode cX9_readBraid 101 = .ok (.iload 4, 2) := dw_at cX9_readBraid_k4 (p := 4) rfl (by decide +kernel)
theorem dcX9_readBraid_103 : decode cX9_readBraid 103 = .ok (.ireturn, 1) := dw_at cX9_readBraid_k4 (p := 6) rfl (by decide +kernel)
theorem dcX9_readBraid_104 : decode cX9_readBraid 104 = .ok (.iinc 4 1, 3) := dw_at cX9_readBraid_k4 (p := 7) rfl (by decide +kernel)
theorem dcX9_readBraid_107 : decode cX9_readBraid 107 = .ok (.goto (-104), 3) := dw_at cX9_readBraid_k4 (p := 10) rfl (by decide +kernel)
theorem dcX9_readBraid_110 : decode cX9_readBraid 110 = .ok (.iconst (-1), 1) := dw_at cX9_readBraid_k4 (p := 13) rfl (by decide +kernel)
theorem dcX9_readBraid_111 : decode cX9_readBraid 111 = .ok (.ireturn, 1) := dw_at cX9_readBraid_k4 (p := 14) rfl (by decide +kernel)
def cm_X9_readBraid_0 (vl : Nat → Nat) (K : Nat) (go : Nat → Int32 → Int32 → Int32 → Int32 → Int32 → Nat → Nat → ow_MS → Option (Int32 × ow_MS)) (x1 : Int32) (x3 : Int32) (x4 : Int32) (x5 : Int32) (x6 : Int32) (r0 : Nat) (r2 : Nat) (z : ow_MS) : Option (Int32 × ow_MS) :=
 go 1 x1 x3 0 0 0 r0 r2 z
def cm_X9_readBraid_1 (vl : Nat → Nat) (K : Nat) (go : Nat → Int32 → Int32 → Int32 → Int32 → Int32 → Nat → Nat → ow_MS → Option (Int32 × ow_MS)) (x1 : Int32) (x3 : Int32) (x4 : Int32) (x5 : Int32) (x6 : Int32) (r0 : Nat) (r2 : Nat) (z : ow_MS) : Option (Int32 × ow_MS) :=
 rdF z (r0 + 1) fun v1 => (if v1 ≤ x4 then some ((-1), z)
 else crI (cX vl) z (r0 + 2) x4 fun v2 => crI (cX vl) z (r0 + 2) x4 fun v3 => (if x4 < 16 then (if (v2 - 97) < 0 then go 2 x1 x3 x4 (v2 - 97) (v3 - 65) r0 r2 z
 else (if (x1 - 1) ≤ (v2 - 97) then go 2 x1 x3 x4 (v2 - 97) (v3 - 65) r0 r2 z
 else ctB (cX vl) z r2 (x3 + x4) (((v2 - 97) + 1).toInt8.toInt32) fun z4 => go 3 x1 x3 x4 (v2 - 97) (v3 - 65) r0 r2 z4))
 else some (x4, z)))
def cm_X9_readBraid_2 (vl : Nat → Nat) (K : Nat) (go : Nat → Int32 → Int32 → Int32 → Int32 → Int32 → Nat → Nat → ow_MS → Option (Int32 × ow_MS)) (x1 : Int32) (x3 : Int32) (x4 : Int32) (x5 : Int32) (x6 : Int32) (r0 : Nat) (r2 : Nat) (z : ow_MS) : Option (Int32 × ow_MS) :=
 (if x6 < 0 then some (x4, z)
 else (if (x1 - 1) ≤ x6 then some (x4, z)
 else ctB (cX vl) z r2 (x3 + x4) ((-(x6 + 1)).toInt8.toInt32) fun z5 => go 3 x1 x3 x4 x5 x6 r0 r2 z5))
def cm_X9_readBraid_3 (vl : Nat → Nat) (K : Nat) (go : Nat → Int32 → Int32 → Int32 → Int32 → Int32 → Nat → Nat → ow_MS → Option (Int32 × ow_MS)) (x1 : Int32) (x3 : Int32) (x4 : Int32) (x5 : Int32) (x6 : Int32) (r0 : Nat) (r2 : Nat) (z : ow_MS) : Option (Int32 × ow_MS) :=
 go 1 x1 x3 (x4 + 1) 0 0 r0 r2 z
def cb_X9_readBraid (vl : Nat → Nat) (K : Nat) (go : Nat → Int32 → Int32 → Int32 → Int32 → Int32 → Nat → Nat → ow_MS → Option (Int32 × ow_MS)) (L : Nat) (x1 : Int32) (x3 : Int32) (x4 : Int32) (x5 : Int32) (x6 : Int32) (r0 : Nat) (r2 : Nat) (z : ow_MS) : Option (Int32 × ow_MS) := match L with
  | 0 => cm_X9_readBraid_0 vl K go x1 x3 x4 x5 x6 r0 r2 z
  | 1 => cm_X9_readBraid_1 vl K go x1 x3 x4 x5 x6 r0 r2 z
  | 2 => cm_X9_readBraid_2 vl K go x1 x3 x4 x5 x6 r0 r2 z
  | 3 => cm_X9_readBraid_3 vl K go x1 x3 x4 x5 x6 r0 r2 z
  | _ => none
def c_X9_readBraid (vl : Nat → Nat) (K : Nat) : Nat → Nat → Int32 → Int32 → Int32 → Int32 → Int32 → Nat → Nat → ow_MS → Option (Int32 × ow_MS)
  | 0 => fun _ _ _ _ _ _ _ _ _ => none
  | k + 1 => cb_X9_readBraid vl K (c_X9_readBraid vl K k)
def ce_X9_readBraid (vl : Nat → Nat) (K : Nat) (r0 : Nat) (x1 : Int32) (r2 : Nat) (x3 : Int32) (z : ow_MS) : Option (Int32 × ow_MS) := c_X9_readBraid vl K K 0 x1 x3 0 0 0 r0 r2 z
abbrev wc_X9_readBraid : List Cond := .code yX9_readBraid cX9_readBraid 7 (some .int) :: wC
theorem cdd_X9_readBraid : yX9_readBraid.cls = RX9 ∧ yX9_readBraid.cls ≠ "java/lang/invoke/MethodHandle" ∧ yX9_readBraid.cls ≠ "java/lang/invoke/VarHandle" ∧ (parseMethodDescriptor yX9_readBraid.desc).map (fun d => d.parameters.length) = some 3 := by decide +kernel
set_option maxHeartbeats 4000000 in
set_option maxRecDepth 100000 in
theorem kc_X9_readBraid (l : Launch) (D : va_G) (q : Nat → ClassId) (vl u : Nat → Nat) (hU0 : tw_inj (cX vl) u) (K : Nat) (r0 : Nat) (x1 : Int32) (r2 : Nat) (x3 : Int32) (hr0 : cw_X9 r0) (hr2 : tw_in (cX vl) r2 1) (z z1 : ow_MS) (r : Int32) (hq : ce_X9_readBraid vl K r0 x1 r2 x3 z = some (r, z1)) : Met l yX9_readBraid wc_X9_readBraid ({ frames := 0, cells := 0, slots := 0, locals := 0 } : Room) (va_Pc [.ref (u r0), .int x1, .ref (u r2), .int x3] (cw_pre D q vl u z)) (va_Qi (fun x (_ : Unit) => x = r) (fun _ t => va_P D vwCl (uw (cX vl) q u z1) t.heap) (tw_A (cX vl) u)) 0 0 (tw_A (cX vl) u) := by
  refine Met.ofW (cc := cX9_readBraid) (maxL := 7) (ret := (some .int)) (by decide) rfl ?_
  intro p e s m args below meth c s₁ B hml hv
  obtain ⟨rfl, hP, hK⟩ := hv
  have hx := B.exec
  have hb := B.bytes
  have hr := B.returns
  have hts := atoms_spec (ws := wc_X9_readBraid) B.pre
  have hT : ∀ w ∈ wC, w.before ([.ref (u r0), .int x1, .ref (u r2), .int x3] : List Value).toArray s = true := fun w h => hts w (List.mem_cons_of_mem _ h)
  have hown : s.vm.findClass RX9 = some m.cls := findClass_of_methodNamed B.named
  have hlocks := B.notSynchronized
  have hU : uw_inj (cX vl) u (tw_A (cX vl) u) := ⟨hU0, fun h hh => ⟨h, hh, rfl⟩⟩
  have hM : uw_M D vwCl (cX vl) q (tw_A (cX vl) u) s.heap u z s.heap [] := ⟨hP, va_S.rf⟩
  have hl := lv_entry ([.ref (u r0), .int x1, .ref (u r2), .int x3]) (n := 7) (Nat.le_of_ble_eq_true rfl)
  rw [lg_entry_eq]
  generalize (lg_sl ([.ref (u r0), .int x1, .ref (u r2), .int x3]) ++ List.replicate (7 - (lg_sl ([.ref (u r0), .int x1, .ref (u r2), .int x3])).length) Slot.unset).toArray = ls at hl ⊢
  have hl : lv_has ls 7 [(0, .ref (u r0)), (1, .int x1), (2, .ref (u r2)), (3, .int x3)] := hl
  refine ow_named (fun QQ hQQ => ?_)
  generalize ([.ref (u r0), .int x1, .ref (u r2), .int x3] : List Value).toArray = args at hts hT hQQ ⊢
  have key : ∀ k : Nat, (∀ (x1 : Int32) (x3 : Int32) (x4 : Int32) (x5 : Int32) (x6 : Int32) (r0 : Nat) (r2 : Nat) (z : ow_MS) (H : Heap) (locs : List Loc) (ls : Array Slot), cw_X9 r0 → tw_in (cX vl) r2 1 → uw_M D vwCl (cX vl) q (tw_A (cX vl) u) s.heap u z H locs → lv_has ls 7 [(0, .ref (u r0)), (1, .int x1), (2, .ref (u r2)), (3, .int x3)] → c_X9_readBraid vl K k 0 x1 x3 x4 x5 x6 r0 r2 z = some (r, z1) → W p l e ({ frames := 0, cells := 0, slots := 0, locals := 0 } : Room) s m args below meth c H locs 0 0 QQ (F0 m 0 ls [])) ∧ (∀ (x1 : Int32) (x3 : Int32) (x4 : Int32) (x5 : Int32) (x6 : Int32) (r0 : Nat) (r2 : Nat) (z : ow_MS) (H : Heap) (locs : List Loc) (ls : Array Slot), cw_X9 r0 → tw_in (cX vl) r2 1 → uw_M D vwCl (cX vl) q (tw_A (cX vl) u) s.heap u z H locs → lv_has ls 7 [(0, .ref (u r0)), (1, .int x1), (2, .ref (u r2)), (3, .int x3), (4, .int x4)] → c_X9_readBraid vl K k 1 x1 x3 x4 x5 x6 r0 r2 z = some (r, z1) → W p l e ({ frames := 0, cells := 0, slots := 0, locals := 0 } : Room) s m args below meth c H locs 0 0 QQ (F0 m 3 ls [])) ∧ (∀ (x1 : Int32) (x3 : Int32) (x4 : Int32) (x5 : Int32) (x6 : Int32) (r0 : Nat) (r2 : Nat) (z : ow_MS) (H : Heap) (locs : List Loc) (ls : Array Slot), cw_X9 r0 → tw_in (cX vl) r2 1 → uw_M D vwCl (cX vl) q (tw_A (cX vl) u) s.heap u z H locs → lv_has ls 7 [(0, .ref (u r0)), (1, .int x1), (2, .ref (u r2)), (3, .int x3), (4, .int x4), (5, .int x5), (6, .int x6)] → c_X9_readBraid vl K k 2 x1 x3 x4 x5 x6 r0 r2 z = some (r, z1) → W p l e ({ frames := 0, cells := 0, slots := 0, locals := 0 } : Room) s m args below meth c H locs 0 0 QQ (F0 m 73 ls [])) ∧ (∀ (x1 : Int32) (x3 : Int32) (x4 : Int32) (x5 : Int32) (x6 : Int32) (r0 : Nat) (r2 : Nat) (z : ow_MS) (H : Heap) (locs : List Loc) (ls : Array Slot), cw_X9 r0 → tw_in (cX vl) r2 1 → uw_M D vwCl (cX vl) q (tw_A (cX vl) u) s.heap u z H locs → lv_has ls 7 [(0, .ref (u r0)), (1, .int x1), (2, .ref (u r2)), (3, .int x3), (4, .int x4), (5, .int x5), (6, .int x6)] → c_X9_readBraid vl K k 3 x1 x3 x4 x5 x6 r0 r2 z = some (r, z1) → W p l e ({ frames := 0, cells := 0, slots := 0, locals := 0 } : Room) s m args below meth c H locs 0 0 QQ (F0 m 104 ls [])) := by
    intro k
    induction k with
    | zero => exact ⟨fun _ _ _ _ _ _ _ _ _ _ _ _ _ _ _ hq => cw_no hq, fun _ _ _ _ _ _ _ _ _ _ _ _ _ _ _ hq => cw_no hq, fun _ _ _ _ _ _ _ _ _ _ _ _ _ _ _ hq => cw_no hq, fun _ _ _ _ _ _ _ _ _ _ _ _ _ _ _ hq => cw_no hq⟩
    | succ k ih =>
      obtain ⟨ih_0, ih_1, ih_2, ih_3⟩ := ih
      refine ⟨?_, ?_, ?_, ?_⟩
      · intro x1 x3 x4 x5 x6 r0 r2 z H locs ls hr0 hr2 hM hl hq
        have hq : cm_X9_readBraid_0 vl K (c_X9_readBraid vl K k) x1 x3 x4 x5 x6 r0 r2 z = some (r, z1) := hq
        unfold cm_X9_readBraid_0 at hq
        refine lv_iconst (v := 0) hx hb dcX9_readBraid_0 (by decide) ?_
        refine lv_istore (lv' := [(4, .int 0), (0, .ref (u r0)), (1, .int x1), (2, .ref (u r2)), (3, .int x3)]) hx hb dcX9_readBraid_1 hl (by decide) rfl (fun ls hl => ?_)
        exact ih_1 x1 x3 0 0 0 r0 r2 z H locs ls hr0 hr2 hM (lv_sub hl [1, 2, 3, 4, 0] rfl) hq
      · intro x1 x3 x4 x5 x6 r0 r2 z H locs ls hr0 hr2 hM hl hq
        have hq : cm_X9_readBraid_1 vl K (c_X9_readBraid vl K k) x1 x3 x4 x5 x6 r0 r2 z = some (r, z1) := hq
        unfold cm_X9_readBraid_1 at hq
        refine lv_iload hx hb dcX9_readBraid_3 (lv_at hl 4 rfl) ?_
        refine lv_aload_n hx hb dcX9_readBraid_5 rfl (lv_at hl 0 rfl) ?_
        refine vgX9_22 hx hb hT hown hK hM hr0 hq dcX9_readBraid_6 (fun v1 hq => ?_)
        refine lv_icmp_ge (tgt := 110) hx hb dcX9_readBraid_9 (by decide) (fun hc => ?_) (fun hc => ?_)
        · have hq := tw_it hq hc
          refine lv_iconst (v := (-1)) hx hb dcX9_readBraid_110 (by decide) ?_
          exact cw_iret hx hb hr hlocks hM hq hQQ dcX9_readBraid_111
        · have hq := tw_if hq hc
          refine lv_aload_n hx hb dcX9_readBraid_12 rfl (lv_at hl 0 rfl) ?_
          refine vgX9_9 hx hb hT hown hK hM hr0 dcX9_readBraid_13 ?_
          refine lv_iload hx hb dcX9_readBraid_16 (lv_at hl 4 rfl) ?_
          refine uw_bald cX_ok hx hb hK hM (cr_X9_1 hr0) hq dcX9_readBraid_18 (fun v2 hq => ?_)
          refine lv_bipush (v := 97) hx hb dcX9_readBraid_19 (by decide) ?_
          refine lv_isub hx hb dcX9_readBraid_21 ?_
          refine lv_istore (lv' := [(5, .int (v2 - 97)), (0, .ref (u r0)), (1, .int x1), (2, .ref (u r2)), (3, .int x3), (4, .int x4)]) hx hb dcX9_readBraid_22 hl (by decide) rfl (fun ls hl => ?_)
          refine lv_aload_n hx hb dcX9_readBraid_24 rfl (lv_at hl 1 rfl) ?_
          refine vgX9_9 hx hb hT hown hK hM hr0 dcX9_readBraid_25 ?_
          refine lv_iload hx hb dcX9_readBraid_28 (lv_at hl 5 rfl) ?_
          refine uw_bald cX_ok hx hb hK hM (cr_X9_1 hr0) hq dcX9_readBraid_30 (fun v3 hq => ?_)
          refine lv_bipush (v := 65) hx hb dcX9_readBraid_31 (by decide) ?_
          refine lv_isub hx hb dcX9_readBraid_33 ?_
          refine lv_istore (lv' := [(6, .int (v3 - 65)), (5, .int (v2 - 97)), (0, .ref (u r0)), (1, .int x1), (2, .ref (u r2)), (3, .int x3), (4, .int x4)]) hx hb dcX9_readBraid_34 hl (by decide) rfl (fun ls hl => ?_)
          refine lv_iload hx hb dcX9_readBraid_36 (lv_at hl 6 rfl) ?_
          refine lv_bipush (v := 16) hx hb dcX9_readBraid_38 (by decide) ?_
          refine lv_icmp_lt (tgt := 46) hx hb dcX9_readBraid_40 (by decide) (fun hc => ?_) (fun hc => ?_)
          · have hq := tw_it hq hc
            refine lv_iload hx hb dcX9_readBraid_46 (lv_at hl 1 rfl) ?_
            refine lv_if_lt (tgt := 73) hx hb dcX9_readBraid_48 (by decide) (fun hc => ?_) (fun hc => ?_)
            · have hq := tw_it hq hc
              exact ih_2 x1 x3 x4 (v2 - 97) (v3 - 65) r0 r2 z H locs ls hr0 hr2 hM (lv_sub hl [2, 3, 4, 5, 6, 1, 0] rfl) hq
            · have hq := tw_if hq hc
              refine lv_iload hx hb dcX9_readBraid_51 (lv_at hl 1 rfl) ?_
              refine lv_iload_n hx hb dcX9_readBraid_53 rfl (lv_at hl 3 rfl) ?_
              refine lv_iconst (v := 1) hx hb dcX9_readBraid_54 (by decide) ?_
              refine lv_isub hx hb dcX9_readBraid_55 ?_
              refine lv_icmp_ge (tgt := 73) hx hb dcX9_readBraid_56 (by decide) (fun hc => ?_) (fun hc => ?_)
              · have hq := tw_it hq hc
                exact ih_2 x1 x3 x4 (v2 - 97) (v3 - 65) r0 r2 z H locs ls hr0 hr2 hM (lv_sub hl [2, 3, 4, 5, 6, 1, 0] rfl) hq
              · have hq := tw_if hq hc
                refine lv_aload_n hx hb dcX9_readBraid_59 rfl (lv_at hl 4 rfl) ?_
                refine lv_iload_n hx hb dcX9_readBraid_60 rfl (lv_at hl 5 rfl) ?_
                refine lv_iload hx hb dcX9_readBraid_61 (lv_at hl 6 rfl) ?_
                refine lv_iadd hx hb dcX9_readBraid_63 ?_
                refine lv_iload hx hb dcX9_readBraid_64 (lv_at hl 1 rfl) ?_
                refine lv_iconst (v := 1) hx hb dcX9_readBraid_66 (by decide) ?_
                refine lv_iadd hx hb dcX9_readBraid_67 ?_
                refine lv_i2b hx hb dcX9_readBraid_68 rfl ?_
                refine uw_bast cX_ok hU hx hb hK hM hr2 hq dcX9_readBraid_69 (fun z4 H locs hM hq => ?_)
                refine lv_goto (tgt := 104) hx hb dcX9_readBraid_70 (by decide) ?_
                exact ih_3 x1 x3 x4 (v2 - 97) (v3 - 65) r0 r2 z4 H locs ls hr0 hr2 hM (lv_sub hl [2, 3, 4, 5, 6, 1, 0] rfl) hq
          · have hq := tw_if hq hc
            refine lv_iload hx hb dcX9_readBraid_43 (lv_at hl 6 rfl) ?_
            exact cw_iret hx hb hr hlocks hM hq hQQ dcX9_readBraid_45
      · intro x1 x3 x4 x5 x6 r0 r2 z H locs ls hr0 hr2 hM hl hq
        have hq : cm_X9_readBraid_2 vl K (c_X9_readBraid vl K k) x1 x3 x4 x5 x6 r0 r2 z = some (r, z1) := hq
        unfold cm_X9_readBraid_2 at hq
        refine lv_iload hx hb dcX9_readBraid_73 (lv_at hl 6 rfl) ?_
        refine lv_if_lt (tgt := 101) hx hb dcX9_readBraid_75 (by decide) (fun hc => ?_) (fun hc => ?_)
        · have hq := tw_it hq hc
          refine lv_iload hx hb dcX9_readBraid_101 (lv_at hl 4 rfl) ?_
          exact cw_iret hx hb hr hlocks hM hq hQQ dcX9_readBraid_103
        · have hq := tw_if hq hc
          refine lv_iload hx hb dcX9_readBraid_78 (lv_at hl 6 rfl) ?_
          refine lv_iload_n hx hb dcX9_readBraid_80 rfl (lv_at hl 1 rfl) ?_
          refine lv_iconst (v := 1) hx hb dcX9_readBraid_81 (by decide) ?_
          refine lv_isub hx hb dcX9_readBraid_82 ?_
          refine lv_icmp_ge (tgt := 101) hx hb dcX9_readBraid_83 (by decide) (fun hc => ?_) (fun hc => ?_)
          · have hq := tw_it hq hc
            refine lv_iload hx hb dcX9_readBraid_101 (lv_at hl 4 rfl) ?_
            exact cw_iret hx hb hr hlocks hM hq hQQ dcX9_readBraid_103
          · have hq := tw_if hq hc
            refine lv_aload_n hx hb dcX9_readBraid_86 rfl (lv_at hl 2 rfl) ?_
            refine lv_iload_n hx hb dcX9_readBraid_87 rfl (lv_at hl 3 rfl) ?_
            refine lv_iload hx hb dcX9_readBraid_88 (lv_at hl 4 rfl) ?_
            refine lv_iadd hx hb dcX9_readBraid_90 ?_
            refine lv_iload hx hb dcX9_readBraid_91 (lv_at hl 6 rfl) ?_
            refine lv_iconst (v := 1) hx hb dcX9_readBraid_93 (by decide) ?_
            refine lv_iadd hx hb dcX9_readBraid_94 ?_
            refine lv_ineg hx hb dcX9_readBraid_95 ?_
            refine lv_i2b hx hb dcX9_readBraid_96 rfl ?_
            refine uw_bast cX_ok hU hx hb hK hM hr2 hq dcX9_readBraid_97 (fun z5 H locs hM hq => ?_)
            refine lv_goto (tgt := 104) hx hb dcX9_readBraid_98 (by decide) ?_
            exact ih_3 x1 x3 x4 x5 x6 r0 r2 z5 H locs ls hr0 hr2 hM (lv_sub hl [0, 1, 2, 3, 4, 5, 6] rfl) hq
      · intro x1 x3 x4 x5 x6 r0 r2 z H locs ls hr0 hr2 hM hl hq
        have hq : cm_X9_readBraid_3 vl K (c_X9_readBraid vl K k) x1 x3 x4 x5 x6 r0 r2 z = some (r, z1) := hq
        unfold cm_X9_readBraid_3 at hq
        refine lv_iinc (v := (x4 + 1)) (lv' := [(4, .int (x4 + 1)), (0, .ref (u r0)), (1, .int x1), (2, .ref (u r2)), (3, .int x3), (5, .int x5), (6, .int x6)]) hx hb dcX9_readBraid_104 hl (k := 4) rfl rfl (by decide) rfl (fun ls hl => ?_)
        refine lv_goto (tgt := 3) hx hb dcX9_readBraid_107 (by decide) ?_
        exact ih_1 x1 x3 (x4 + 1) 0 0 r0 r2 z H locs ls hr0 hr2 hM (lv_sub hl [1, 2, 3, 4, 0] rfl) hq
  exact (key K).1 x1 x3 0 0 0 r0 r2 z s.heap [] ls hr0 hr2 hM (lv_sub hl [0, 1, 2, 3] rfl) hq
theorem dcX10_compare_0 : decode cX10_compare 0 = .ok (.iconst 0, 1) := dw_at cX10_compare_k0 (p := 0) rfl (by decide +kernel)
theorem dcX10_compare_1 : decode cX10_compare 1 = .ok (.istore 5, 2) := dw_at cX10_compare_k0 (p := 1) rfl (by decide +kernel)
theorem dcX10_compare_3 : decode cX10_compare 3 = .ok (.iload 5, 2) := dw_at cX10_compare_k0 (p := 3) rfl (by decide +kernel)
theorem dcX10_compare_5 : decode cX10_compare 5 = .ok (.aload_n 0, 1) := dw_at cX10_compare_k0 (p := 5) rfl (by decide +kernel)
theorem dcX10_compare_6 : decode cX10_compare 6 = .ok (.getfield 88, 3) := dw_at cX10_compare_k0 (p := 6) rfl (by decide +kernel)
theorem dcX10_compare_9 : decode cX10_compare 9 = .ok (.if_icmp .ge 47, 3) := dw_at cX10_compare_k0 (p := 9) rfl (by decide +kernel)
theorem dcX10_compare_12 : decode cX10_compare 12 = .ok (.aload_n 1, 1) := dw_at cX10_compare_k0 (p := 12) rfl (by decide +kernel)
theorem dcX10_compare_13 : decode cX10_compare 13 = .ok (.iload_n 2, 1) := dw_at cX10_compare_k0 (p := 13) rfl (by decide +kernel)
theorem dcX10_compare_14 : decode cX10_compare 14 = .ok (.iload 5, 2) := dw_at cX10_compare_k0 (p := 14) rfl (by decide +kernel)
theorem dcX10_compare_16 : decode cX10_compare 16 = .ok (.iadd, 1) := dw_at cX10_compare_k0 (p := 16) rfl (by decide +kernel)
theorem dcX10_compare_17 : decode cX10_compare 17 = .ok (.iaload, 1) := dw_at cX10_compare_k0 (p := 17) rfl (by decide +kernel)
theorem dcX10_compare_18 : decode cX10_compare 18 = .ok (.aload_n 3, 1) := dw_at cX10_compare_k0 (p := 18) rfl (by decide +kernel)
theorem dcX10_compare_19 : decode cX10_compare 19 = .ok (.iload 4, 2) := dw_at cX10_compare_k0 (p := 19) rfl (by decide +kernel)
theorem dcX10_compare_21 : decode cX10_compare 21 = .ok (.iload 5, 2) := dw_at cX10_compare_k0 (p := 21) rfl (by decide +kernel)
theorem dcX10_compare_23 : decode cX10_compare 23 = .ok (.iadd, 1) := dw_at cX10_compare_k0 (p := 23) rfl (by decide +kernel)
theorem dcX10_compare_24 : decode cX10_compare 24 = .ok (.iaload, 1) := dw_at cX10_compare_k1 (p := 0) rfl (by decide +kernel)
theorem dcX10_compare_25 : decode cX10_compare 25 = .ok (.if_icmp .eq 25, 3) := dw_at cX10_compare_k1 (p := 1) rfl (by decide +kernel)
theorem dcX10_compare_28 : decode cX10_compare 28 = .ok (.aload_n 1, 1) := dw_at cX10_compare_k1 (p := 4) rfl (by decide +kernel)
theorem dcX10_compare_29 : decode cX10_compare 29 = .ok (.iload_n 2, 1) := dw_at cX10_compare_k1 (p := 5) rfl (by decide +kernel)
theorem dcX10_compare_30 : decode cX10_compare 30 = .ok (.iload 5, 2) := dw_at cX10_compare_k1 (p := 6) rfl (by decide +kernel)
theorem dcX10_compare_32 : decode cX10_compare 32 = .ok (.iadd, 1) := dw_at cX10_compare_k1 (p := 8) rfl (by decide +kernel)
theorem dcX10_compare_33 : decode cX10_compare 33 = .ok (.iaload, 1) := dw_at cX10_compare_k1 (p := 9) rfl (by decide +kernel)
theorem dcX10_compare_34 : decode cX10_compare 34 = .ok (.aload_n 3, 1) := dw_at cX10_compare_k1 (p := 10) rfl (by decide +kernel)
theorem dcX10_compare_35 : decode cX10_compare 35 = .ok (.iload 4, 2) := dw_at cX10_compare_k1 (p := 11) rfl (by decide +kernel)
theorem dcX10_compare_37 : decode cX10_compare 37 = .ok (.iload 5, 2) := dw_at cX10_compare_k1 (p := 13) rfl (by decide +kernel)
theorem dcX10_compare_39 : decode cX10_compare 39 = .ok (.iadd, 1) := dw_at cX10_compare_k1 (p := 15) rfl (by decide +kernel)
theorem dcX10_compare_40 : decode cX10_compare 40 = .ok (.iaload, 1) := dw_at cX10_compare_k1 (p := 16) rfl (by decide +kernel)
theorem dcX10_compare_41 : decode cX10_compare 41 = .ok (.if_icmp .ge 7, 3) := dw_at cX10_compare_k1 (p := 17) rfl (by decide +kernel)
theorem dcX10_compare_44 : decode cX10_compare 44 = .ok (.iconst (-1), 1) := dw_at cX10_compare_k1 (p := 20) rfl (by decide +kernel)
theorem dcX10_compare_45 : decode cX10_compare 45 = .ok (.goto 4, 3) := dw_at cX10_compare_k1 (p := 21) rfl (by decide +kernel)
theorem dcX10_compare_48 : decode cX10_compare 48 = .ok (.iconst 1, 1) := dw_at cX10_compare_k2 (p := 0) rfl (by decide +kernel)
theorem dcX10_compare_49 : decode cX10_compare 49 = .ok (.ireturn, 1) := dw_at cX10_compare_k2 (p := 1) rfl (by decide +kernel)
theorem dcX10_compare_50 : decode cX10_compare 50 = .ok (.iinc 5 1, 3) := dw_at cX10_compare_k2 (p := 2) rfl (by decide +kernel)
theorem dcX10_compare_53 : decode cX10_compare 53 = .ok (.goto (-50), 3) := dw_at cX10_compare_k2 (p := 5) rfl (by decide +kernel)
theorem dcX10_compare_56 : decode cX10_compare 56 = .ok (.iconst 0, 1) := dw_at cX10_compare_k2 (p := 8) rfl (by decide +kernel)
theorem dcX10_compare_57 : decode cX10_compare 57 = .ok (.ireturn, 1) := dw_at cX10_compare_k2 (p := 9) rfl (by decide +kernel)
def cm_X10_compare_0 (vl : Nat → Nat) (K : Nat) (go : Nat → Int32 → Int32 → Int32 → Nat → Nat → Nat → ow_MS → Option (Int32 × ow_MS)) (x2 : Int32) (x4 : Int32) (x5 : Int32) (r0 : Nat) (r1 : Nat) (r3 : Nat) (z : ow_MS) : Option (Int32 × ow_MS) :=
 go 1 x2 x4 0 r0 r1 r3 z
def cm_X10_compare_1 (vl : Nat → Nat) (K : Nat) (go : Nat → Int32 → Int32 → Int32 → Nat → Nat → Nat → ow_MS → Option (Int32 × ow_MS)) (x2 : Int32) (x4 : Int32) (x5 : Int32) (r0 : Nat) (r1 : Nat) (r3 : Nat) (z : ow_MS) : Option (Int32 × ow_MS) :=
 rdF z (r0 + 3) fun v1 => (if v1 ≤ x5 then some (0, z)
 else crI (cX vl) z r1 (x2 + x5) fun v2 => crI (cX vl) z r3 (x4 + x5) fun v3 => (if v2 = v3 then go 1 x2 x4 (x5 + 1) r0 r1 r3 z
 else crI (cX vl) z r1 (x2 + x5) fun v4 => crI (cX vl) z r3 (x4 + x5) fun v5 => (if v5 ≤ v4 then some (1, z)
 else some ((-1), z))))
def cb_X10_compare (vl : Nat → Nat) (K : Nat) (go : Nat → Int32 → Int32 → Int32 → Nat → Nat → Nat → ow_MS → Option (Int32 × ow_MS)) (L : Nat) (x2 : Int32) (x4 : Int32) (x5 : Int32) (r0 : Nat) (r1 : Nat) (r3 : Nat) (z : ow_MS) : Option (Int32 × ow_MS) := match L with
  | 0 => cm_X10_compare_0 vl K go x2 x4 x5 r0 r1 r3 z
  | 1 => cm_X10_compare_1 vl K go x2 x4 x5 r0 r1 r3 z
  | _ => none
def c_X10_compare (vl : Nat → Nat) (K : Nat) : Nat → Nat → Int32 → Int32 → Int32 → Nat → Nat → Nat → ow_MS → Option (Int32 × ow_MS)
  | 0 => fun _ _ _ _ _ _ _ _ => none
  | k + 1 => cb_X10_compare vl K (c_X10_compare vl K k)
def ce_X10_compare (vl : Nat → Nat) (K : Nat) (r0 : Nat) (r1 : Nat) (x2 : Int32) (r3 : Nat) (x4 : Int32) (z : ow_MS) : Option (Int32 × ow_MS) := c_X10_compare vl K K 0 x2 x4 0 r0 r1 r3 z
abbrev wc_X10_compare : List Cond := .code yX10_compare cX10_compare 6 (some .int) :: wC
theorem cdd_X10_compare : yX10_compare.cls = RX10 ∧ yX10_compare.cls ≠ "java/lang/invoke/MethodHandle" ∧ yX10_compare.cls ≠ "java/lang/invoke/VarHandle" ∧ (parseMethodDescriptor yX10_compare.desc).map (fun d => d.parameters.length) = some 4 := by decide +kernel
set_option maxHeartbeats 4000000 in
set_option maxRecDepth 100000 in
theorem kc_X10_compare (l : Launch) (D : va_G) (q : Nat → ClassId) (vl u : Nat → Nat) (hU0 : tw_inj (cX vl) u) (K : Nat) (r0 : Nat) (r1 : Nat) (x2 : Int32) (r3 : Nat) (x4 : Int32) (hr0 : cw_X10 r0) (hr1 : tw_in (cX vl) r1 0) (hr3 : tw_in (cX vl) r3 0) (z z1 : ow_MS) (r : Int32) (hq : ce_X10_compare vl K r0 r1 x2 r3 x4 z = some (r, z1)) : Met l yX10_compare wc_X10_compare ({ frames := 0, cells := 0, slots := 0, locals := 0 } : Room) (va_Pc [.ref (u r0), .ref (u r1), .int x2, .ref (u r3), .int x4] (cw_pre D q vl u z)) (va_Qi (fun x (_ : Unit) => x = r) (fun _ t => va_P D vwCl (uw (cX vl) q u z1) t.heap) (tw_A (cX vl) u)) 0 0 (tw_A (cX vl) u) := by
  refine Met.ofW (cc := cX10_compare) (maxL := 6) (ret := (some .int)) (by decide) rfl ?_
  intro p e s m args below meth c s₁ B hml hv
  obtain ⟨rfl, hP, hK⟩ := hv
  have hx := B.exec
  have hb := B.bytes
  have hr := B.returns
  have hts := atoms_spec (ws := wc_X10_compare) B.pre
  have hT : ∀ w ∈ wC, w.before ([.ref (u r0), .ref (u r1), .int x2, .ref (u r3), .int x4] : List Value).toArray s = true := fun w h => hts w (List.mem_cons_of_mem _ h)
  have hown : s.vm.findClass RX10 = some m.cls := findClass_of_methodNamed B.named
  have hlocks := B.notSynchronized
  have hU : uw_inj (cX vl) u (tw_A (cX vl) u) := ⟨hU0, fun h hh => ⟨h, hh, rfl⟩⟩
  have hM : uw_M D vwCl (cX vl) q (tw_A (cX vl) u) s.heap u z s.heap [] := ⟨hP, va_S.rf⟩
  have hl := lv_entry ([.ref (u r0), .ref (u r1), .int x2, .ref (u r3), .int x4]) (n := 6) (Nat.le_of_ble_eq_true rfl)
  rw [lg_entry_eq]
  generalize (lg_sl ([.ref (u r0), .ref (u r1), .int x2, .ref (u r3), .int x4]) ++ List.replicate (6 - (lg_sl ([.ref (u r0), .ref (u r1), .int x2, .ref (u r3), .int x4])).length) Slot.unset).toArray = ls at hl ⊢
  have hl : lv_has ls 6 [(0, .ref (u r0)), (1, .ref (u r1)), (2, .int x2), (3, .ref (u r3)), (4, .int x4)] := hl
  refine ow_named (fun QQ hQQ => ?_)
  generalize ([.ref (u r0), .ref (u r1), .int x2, .ref (u r3), .int x4] : List Value).toArray = args at hts hT hQQ ⊢
  have key : ∀ k : Nat, (∀ (x2 : Int32) (x4 : Int32) (x5 : Int32) (r0 : Nat) (r1 : Nat) (r3 : Nat) (z : ow_MS) (H : Heap) (locs : List Loc) (ls : Array Slot), cw_X10 r0 → tw_in (cX vl) r1 0 → tw_in (cX vl) r3 0 → uw_M D vwCl (cX vl) q (tw_A (cX vl) u) s.heap u z H locs → lv_has ls 6 [(0, .ref (u r0)), (1, .ref (u r1)), (2, .int x2), (3, .ref (u r3)), (4, .int x4)] → c_X10_compare vl K k 0 x2 x4 x5 r0 r1 r3 z = some (r, z1) → W p l e ({ frames := 0, cells := 0, slots := 0, locals := 0 } : Room) s m args below meth c H locs 0 0 QQ (F0 m 0 ls [])) ∧ (∀ (x2 : Int32) (x4 : Int32) (x5 : Int32) (r0 : Nat) (r1 : Nat) (r3 : Nat) (z : ow_MS) (H : Heap) (locs : List Loc) (ls : Array Slot), cw_X10 r0 → tw_in (cX vl) r1 0 → tw_in (cX vl) r3 0 → uw_M D vwCl (cX vl) q (tw_A (cX vl) u) s.heap u z H locs → lv_has ls 6 [(0, .ref (u r0)), (1, .ref (u r1)), (2, .int x2), (3, .ref (u r3)), (4, .int x4), (5, .int x5)] → c_X10_compare vl K k 1 x2 x4 x5 r0 r1 r3 z = some (r, z1) → W p l e ({ frames := 0, cells := 0, slots := 0, locals := 0 } : Room) s m args below meth c H locs 0 0 QQ (F0 m 3 ls [])) := by
    intro k
    induction k with
    | zero => exact ⟨fun _ _ _ _ _ _ _ _ _ _ _ _ _ _ _ hq => cw_no hq, fun _ _ _ _ _ _ _ _ _ _ _ _ _ _ _ hq => cw_no hq⟩
    | succ k ih =>
      obtain ⟨ih_0, ih_1⟩ := ih
      refine ⟨?_, ?_⟩
      · intro x2 x4 x5 r0 r1 r3 z H locs ls hr0 hr1 hr3 hM hl hq
        have hq : cm_X10_compare_0 vl K (c_X10_compare vl K k) x2 x4 x5 r0 r1 r3 z = some (r, z1) := hq
        unfold cm_X10_compare_0 at hq
        refine lv_iconst (v := 0) hx hb dcX10_compare_0 (by decide) ?_
        refine lv_istore (lv' := [(5, .int 0), (0, .ref (u r0)), (1, .ref (u r1)), (2, .int x2), (3, .ref (u r3)), (4, .int x4)]) hx hb dcX10_compare_1 hl (by decide) rfl (fun ls hl => ?_)
        exact ih_1 x2 x4 0 r0 r1 r3 z H locs ls hr0 hr1 hr3 hM (lv_sub hl [1, 2, 3, 4, 5, 0] rfl) hq
      · intro x2 x4 x5 r0 r1 r3 z H locs ls hr0 hr1 hr3 hM hl hq
        have hq : cm_X10_compare_1 vl K (c_X10_compare vl K k) x2 x4 x5 r0 r1 r3 z = some (r, z1) := hq
        unfold cm_X10_compare_1 at hq
        refine lv_iload hx hb dcX10_compare_3 (lv_at hl 5 rfl) ?_
        refine lv_aload_n hx hb dcX10_compare_5 rfl (lv_at hl 0 rfl) ?_
        refine vgX10_88 hx hb hT hown hK hM hr0 hq dcX10_compare_6 (fun v1 hq => ?_)
        refine lv_icmp_ge (tgt := 56) hx hb dcX10_compare_9 (by decide) (fun hc => ?_) (fun hc => ?_)
        · have hq := tw_it hq hc
          refine lv_iconst (v := 0) hx hb dcX10_compare_56 (by decide) ?_
          exact cw_iret hx hb hr hlocks hM hq hQQ dcX10_compare_57
        · have hq := tw_if hq hc
          refine lv_aload_n hx hb dcX10_compare_12 rfl (lv_at hl 1 rfl) ?_
          refine lv_iload_n hx hb dcX10_compare_13 rfl (lv_at hl 2 rfl) ?_
          refine lv_iload hx hb dcX10_compare_14 (lv_at hl 5 rfl) ?_
          refine lv_iadd hx hb dcX10_compare_16 ?_
          refine uw_iald cX_ok hx hb hK hM hr1 hq dcX10_compare_17 (fun v2 hq => ?_)
          refine lv_aload_n hx hb dcX10_compare_18 rfl (lv_at hl 3 rfl) ?_
          refine lv_iload hx hb dcX10_compare_19 (lv_at hl 4 rfl) ?_
          refine lv_iload hx hb dcX10_compare_21 (lv_at hl 5 rfl) ?_
          refine lv_iadd hx hb dcX10_compare_23 ?_
          refine uw_iald cX_ok hx hb hK hM hr3 hq dcX10_compare_24 (fun v3 hq => ?_)
          refine lv_icmp_eq (tgt := 50) hx hb dcX10_compare_25 (by decide) (fun hc => ?_) (fun hc => ?_)
          · have hq := tw_it hq hc
            refine lv_iinc (v := (x5 + 1)) (lv' := [(5, .int (x5 + 1)), (0, .ref (u r0)), (1, .ref (u r1)), (2, .int x2), (3, .ref (u r3)), (4, .int x4)]) hx hb dcX10_compare_50 hl (k := 5) rfl rfl (by decide) rfl (fun ls hl => ?_)
            refine lv_goto (tgt := 3) hx hb dcX10_compare_53 (by decide) ?_
            exact ih_1 x2 x4 (x5 + 1) r0 r1 r3 z H locs ls hr0 hr1 hr3 hM (lv_sub hl [1, 2, 3, 4, 5, 0] rfl) hq
          · have hq := tw_if hq hc
            refine lv_aload_n hx hb dcX10_compare_28 rfl (lv_at hl 1 rfl) ?_
            refine lv_iload_n hx hb dcX10_compare_29 rfl (lv_at hl 2 rfl) ?_
            refine lv_iload hx hb dcX10_compare_30 (lv_at hl 5 rfl) ?_
            refine lv_iadd hx hb dcX10_compare_32 ?_
            refine uw_iald cX_ok hx hb hK hM hr1 hq dcX10_compare_33 (fun v4 hq => ?_)
            refine lv_aload_n hx hb dcX10_compare_34 rfl (lv_at hl 3 rfl) ?_
            refine lv_iload hx hb dcX10_compare_35 (lv_at hl 4 rfl) ?_
            refine lv_iload hx hb dcX10_compare_37 (lv_at hl 5 rfl) ?_
            refine lv_iadd hx hb dcX10_compare_39 ?_
            refine uw_iald cX_ok hx hb hK hM hr3 hq dcX10_compare_40 (fun v5 hq => ?_)
            refine lv_icmp_ge (tgt := 48) hx hb dcX10_compare_41 (by decide) (fun hc => ?_) (fun hc => ?_)
            · have hq := tw_it hq hc
              refine lv_iconst (v := 1) hx hb dcX10_compare_48 (by decide) ?_
              exact cw_iret hx hb hr hlocks hM hq hQQ dcX10_compare_49
            · have hq := tw_if hq hc
              refine lv_iconst (v := (-1)) hx hb dcX10_compare_44 (by decide) ?_
              refine lv_goto (tgt := 49) hx hb dcX10_compare_45 (by decide) ?_
              exact cw_iret hx hb hr hlocks hM hq hQQ dcX10_compare_49
  exact (key K).1 x2 x4 0 r0 r1 r3 z s.heap [] ls hr0 hr1 hr3 hM (lv_sub hl [0, 1, 2, 3, 4] rfl) hq
theorem dcX10_add_0 : decode cX10_add 0 = .ok (.iconst 0, 1) := dw_at cX10_add_k0 (p := 0) rfl (by decide +kernel)
theorem dcX10_add_1 : decode cX10_add 1 = .ok (.istore_n 1, 1) := dw_at cX10_add_k0 (p := 1) rfl (by decide +kernel)
theorem dcX10_add_2 : decode cX10_add 2 = .ok (.aload_n 0, 1) := dw_at cX10_add_k0 (p := 2) rfl (by decide +kernel)
theorem dcX10_add_3 : decode cX10_add 3 = .ok (.getfield 56, 3) := dw_at cX10_add_k0 (p := 3) rfl (by decide +kernel)
theorem dcX10_add_6 : decode cX10_add 6 = .ok (.istore_n 2, 1) := dw_at cX10_add_k0 (p := 6) rfl (by decide +kernel)
theorem dcX10_add_7 : decode cX10_add 7 = .ok (.iconst 0, 1) := dw_at cX10_add_k0 (p := 7) rfl (by decide +kernel)
theorem dcX10_add_8 : decode cX10_add 8 = .ok (.istore_n 3, 1) := dw_at cX10_add_k0 (p := 8) rfl (by decide +kernel)
theorem dcX10_add_9 : decode cX10_add 9 = .ok (.iload_n 3, 1) := dw_at cX10_add_k0 (p := 9) rfl (by decide +kernel)
theorem dcX10_add_10 : decode cX10_add 10 = .ok (.bipush 16, 2) := dw_at cX10_add_k0 (p := 10) rfl (by decide +kernel)
theorem dcX10_add_12 : decode cX10_add 12 = .ok (.if_icmp .ge 71, 3) := dw_at cX10_add_k0 (p := 12) rfl (by decide +kernel)
theorem dcX10_add_15 : decode cX10_add 15 = .ok (.iload_n 1, 1) := dw_at cX10_add_k0 (p := 15) rfl (by decide +kernel)
theorem dcX10_add_16 : decode cX10_add 16 = .ok (.iload_n 2, 1) := dw_at cX10_add_k0 (p := 16) rfl (by decide +kernel)
theorem dcX10_add_17 : decode cX10_add 17 = .ok (.if_icmp .ge 66, 3) := dw_at cX10_add_k0 (p := 17) rfl (by decide +kernel)
theorem dcX10_add_20 : decode cX10_add 20 = .ok (.iload_n 1, 1) := dw_at cX10_add_k0 (p := 20) rfl (by decide +kernel)
theorem dcX10_add_21 : decode cX10_add 21 = .ok (.iload_n 2, 1) := dw_at cX10_add_k0 (p := 21) rfl (by decide +kernel)
theorem dcX10_add_22 : decode cX10_add 22 = .ok (.iadd, 1) := dw_at cX10_add_k0 (p := 22) rfl (by decide +kernel)
theorem dcX10_add_23 : decode cX10_add 23 = .ok (.iconst 1, 1) := dw_at cX10_add_k0 (p := 23) rfl (by decide +kernel)
theorem dcX10_add_24 : decode cX10_add 24 = .ok (.iushr, 1) := dw_at cX10_add_k1 (p := 0) rfl (by decide +kernel)
theorem dcX10_add_25 : decode cX10_add 25 = .ok (.istore 4, 2) := dw_at cX10_add_k1 (p := 1) rfl (by decide +kernel)
theorem dcX10_add_27 : decode cX10_add 27 = .ok (.aload_n 0, 1) := dw_at cX10_add_k1 (p := 3) rfl (by decide +kernel)
theorem dcX10_add_28 : decode cX10_add 28 = .ok (.aload_n 0, 1) := dw_at cX10_add_k1 (p := 4) rfl (by decide +kernel)
theorem dcX10_add_29 : decode cX10_add 29 = .ok (.getfield 11, 3) := dw_at cX10_add_k1 (p := 5) rfl (by decide +kernel)
theorem dcX10_add_32 : decode cX10_add 32 = .ok (.aload_n 0, 1) := dw_at cX10_add_k1 (p := 8) rfl (by decide +kernel)
theorem dcX10_add_33 : decode cX10_add 33 = .ok (.getfield 15, 3) := dw_at cX10_add_k1 (p := 9) rfl (by decide +kernel)
theorem dcX10_add_36 : decode cX10_add 36 = .ok (.iload 4, 2) := dw_at cX10_add_k1 (p := 12) rfl (by decide +kernel)
theorem dcX10_add_38 : decode cX10_add 38 = .ok (.iaload, 1) := dw_at cX10_add_k1 (p := 14) rfl (by decide +kernel)
theorem dcX10_add_39 : decode cX10_add 39 = .ok (.bipush 20, 2) := dw_at cX10_add_k1 (p := 15) rfl (by decide +kernel)
theorem dcX10_add_41 : decode cX10_add 41 = .ok (.imul, 1) := dw_at cX10_add_k1 (p := 17) rfl (by decide +kernel)
theorem dcX10_add_42 : decode cX10_add 42 = .ok (.aload_n 0, 1) := dw_at cX10_add_k1 (p := 18) rfl (by decide +kernel)
theorem dcX10_add_43 : decode cX10_add 43 = .ok (.getfield 21, 3) := dw_at cX10_add_k1 (p := 19) rfl (by decide +kernel)
theorem dcX10_add_46 : decode cX10_add 46 = .ok (.getfield 96, 3) := dw_at cX10_add_k1 (p := 22) rfl (by decide +kernel)
theorem dcX10_add_49 : decode cX10_add 49 = .ok (.iconst 0, 1) := dw_at cX10_add_k2 (p := 0) rfl (by decide +kernel)
theorem dcX10_add_50 : decode cX10_add 50 = .ok (.invokevirtual 109, 3) := dw_at cX10_add_k2 (p := 1) rfl (by decide +kernel)
theorem dcX10_add_53 : decode cX10_add 53 = .ok (.istore 5, 2) := dw_at cX10_add_k2 (p := 4) rfl (by decide +kernel)
theorem dcX10_add_55 : decode cX10_add 55 = .ok (.iload 5, 2) := dw_at cX10_add_k2 (p := 6) rfl (by decide +kernel)
theorem dcX10_add_57 : decode cX10_add 57 = .ok (.ifCond .ne 4, 3) := dw_at cX10_add_k2 (p := 8) rfl (by decide +kernel)
theorem dcX10_add_60 : decode cX10_add 60 = .ok (.return_, 1) := dw_at cX10_add_k2 (p := 11) rfl (by decide +kernel)
theorem dcX10_add_61 : decode cX10_add 61 = .ok (.iload 5, 2) := dw_at cX10_add_k2 (p := 12) rfl (by decide +kernel)
theorem dcX10_add_63 : decode cX10_add 63 = .ok (.ifCond .ge 11, 3) := dw_at cX10_add_k2 (p := 14) rfl (by decide +kernel)
theorem dcX10_add_66 : decode cX10_add 66 = .ok (.iload 4, 2) := dw_at cX10_add_k2 (p := 17) rfl (by decide +kernel)
theorem dcX10_add_68 : decode cX10_add 68 = .ok (.iconst 1, 1) := dw_at cX10_add_k2 (p := 19) rfl (by decide +kernel)
theorem dcX10_add_69 : decode cX10_add 69 = .ok (.iadd, 1) := dw_at cX10_add_k2 (p := 20) rfl (by decide +kernel)
theorem dcX10_add_70 : decode cX10_add 70 = .ok (.istore_n 1, 1) := dw_at cX10_add_k2 (p := 21) rfl (by decide +kernel)
theorem dcX10_add_71 : decode cX10_add 71 = .ok (.goto 6, 3) := dw_at cX10_add_k2 (p := 22) rfl (by decide +kernel)
theorem dcX10_add_74 : decode cX10_add 74 = .ok (.iload 4, 2) := dw_at cX10_add_k3 (p := 0) rfl (by decide +kernel)
theorem dcX10_add_76 : decode cX10_add 76 = .ok (.istore_n 2, 1) := dw_at cX10_add_k3 (p := 2) rfl (by decide +kernel)
theorem dcX10_add_77 : decode cX10_add 77 = .ok (.iinc 3 1, 3) := dw_at cX10_add_k3 (p := 3) rfl (by decide +kernel)
theorem dcX10_add_80 : decode cX10_add 80 = .ok (.goto (-71), 3) := dw_at cX10_add_k3 (p := 6) rfl (by decide +kernel)
theorem dcX10_add_83 : decode cX10_add 83 = .ok (.aload_n 0, 1) := dw_at cX10_add_k3 (p := 9) rfl (by decide +kernel)
theorem dcX10_add_84 : decode cX10_add 84 = .ok (.getfield 56, 3) := dw_at cX10_add_k3 (p := 10) rfl (by decide +kernel)
theorem dcX10_add_87 : decode cX10_add 87 = .ok (.sipush 200, 3) := dw_at cX10_add_k3 (p := 13) rfl (by decide +kernel)
theorem dcX10_add_90 : decode cX10_add 90 = .ok (.if_icmp .gt 12, 3) := dw_at cX10_add_k3 (p := 16) rfl (by decide +kernel)
theorem dcX10_add_93 : decode cX10_add 93 = .ok (.aload_n 0, 1) := dw_at cX10_add_k3 (p := 19) rfl (by decide +kernel)
theorem dcX10_add_94 : decode cX10_add 94 = .ok (.getfield 88, 3) := dw_at cX10_add_k3 (p := 20) rfl (by decide +kernel)
theorem dcX10_add_97 : decode cX10_add 97 = .ok (.bipush 20, 2) := dw_at cX10_add_k3 (p := 23) rfl (by decide +kernel)
theorem dcX10_add_99 : decode cX10_add 99 = .ok (.if_icmp .le 4, 3) := dw_at cX10_add_k4 (p := 0) rfl (by decide +kernel)
theorem dcX10_add_102 : decode cX10_add 102 = .ok (.return_, 1) := dw_at cX10_add_k4 (p := 3) rfl (by decide +kernel)
theorem dcX10_add_103 : decode cX10_add 103 = .ok (.aload_n 0, 1) := dw_at cX10_add_k4 (p := 4) rfl (by decide +kernel)
theorem dcX10_add_104 : decode cX10_add 104 = .ok (.getfield 21, 3) := dw_at cX10_add_k4 (p := 5) rfl (by decide +kernel)
theorem dcX10_add_107 : decode cX10_add 107 = .ok (.getfield 96, 3) := dw_at cX10_add_k4 (p := 8) rfl (by decide +kernel)
theorem dcX10_add_110 : decode cX10_add 110 = .ok (.iconst 0, 1) := dw_at cX10_add_k4 (p := 11) rfl (by decide +kernel)
theorem dcX10_add_111 : decode cX10_add 111 = .ok (.aload_n 0, 1) := dw_at cX10_add_k4 (p := 12) rfl (by decide +kernel)
theorem dcX10_add_112 : decode cX10_add 112 = .ok (.getfield 11, 3) := dw_at cX10_add_k4 (p := 13) rfl (by decide +kernel)
theorem dcX10_add_115 : decode cX10_add 115 = .ok (.aload_n 0, 1) := dw_at cX10_add_k4 (p := 16) rfl (by decide +kernel)
theorem dcX10_add_116 : decode cX10_add 116 = .ok (.getfield 56, 3) := dw_at cX10_add_k4 (p := 17) rfl (by decide +kernel)
theorem dcX10_add_119 : decode cX10_add 119 = .ok (.bipush 20, 2) := dw_at cX10_add_k4 (p := 20) rfl (by decide +kernel)
theorem dcX10_add_121 : decode cX10_add 121 = .ok (.imul, 1) := dw_at cX10_add_k4 (p := 22) rfl (by decide +kernel)
theorem dcX10_add_122 : decode cX10_add 122 = .ok (.aload_n 0, 1) := dw_at cX10_add_k4 (p := 23) rfl (by decide +kernel)
theorem dcX10_add_123 : decode cX10_add 123 = .ok (.getfield 88, 3) := dw_at cX10_add_k5 (p := 0) rfl (by decide +kernel)
theorem dcX10_add_126 : decode cX10_add 126 = .ok (.invokestatic 99, 3) := dw_at cX10_add_k5 (p := 3) rfl (by decide +kernel)
theorem dcX10_add_129 : decode cX10_add 129 = .ok (.aload_n 0, 1) := dw_at cX10_add_k5 (p := 6) rfl (by decide +kernel)
theorem dcX10_add_130 : decode cX10_add 130 = .ok (.getfield 15, 3) := dw_at cX10_add_k5 (p := 7) rfl (by decide +kernel)
theorem dcX10_add_133 : decode cX10_add 133 = .ok (.iload_n 1, 1) := dw_at cX10_add_k5 (p := 10) rfl (by decide +kernel)
theorem dcX10_add_134 : decode cX10_add 134 = .ok (.aload_n 0, 1) := dw_at cX10_add_k5 (p := 11) rfl (by decide +kernel)
theorem dcX10_add_135 : decode cX10_add 135 = .ok (.getfield 15, 3) := dw_at cX10_add_k5 (p := 12) rfl (by decide +kernel)
theorem dcX10_add_138 : decode cX10_add 138 = .ok (.iload_n 1, 1) := dw_at cX10_add_k5 (p := 15) rfl (by decide +kernel)
theorem dcX10_add_139 : decode cX10_add 139 = .ok (.iconst 1, 1) := dw_at cX10_add_k5 (p := 16) rfl (by decide +kernel)
theorem dcX10_add_140 : decode cX10_add 140 = .ok (.iadd, 1) := dw_at cX10_add_k5 (p := 17) rfl (by decide +kernel)
theorem dcX10_add_141 : decode cX10_add 141 = .ok (.aload_n 0, 1) := dw_at cX10_add_k5 (p := 18) rfl (by decide +kernel)
theorem dcX10_add_142 : decode cX10_add 142 = .ok (.getfield 56, 3) := dw_at cX10_add_k5 (p := 19) rfl (by decide +kernel)
theorem dcX10_add_145 : decode cX10_add 145 = .ok (.iload_n 1, 1) := dw_at cX10_add_k5 (p := 22) rfl (by decide +kernel)
theorem dcX10_add_146 : decode cX10_add 146 = .ok (.isub, 1) := dw_at cX10_add_k5 (p := 23) rfl (by decide +kernel)
theorem dcX10_add_147 : decode cX10_add 147 = .ok (.invokestatic 99, 3) := dw_at cX10_add_k6 (p := 0) rfl (by decide +kernel)
theorem dcX10_add_150 : decode cX10_add 150 = .ok (.aload_n 0, 1) := dw_at cX10_add_k6 (p := 3) rfl (by decide +kernel)
theorem dcX10_add_151 : decode cX10_add 151 = .ok (.getfield 15, 3) := dw_at cX10_add_k6 (p := 4) rfl (by decide +kernel)
theorem dcX10_add_154 : decode cX10_add 154 = .ok (.iload_n 1, 1) := dw_at cX10_add_k6 (p := 7) rfl (by decide +kernel)
theorem dcX10_add_155 : decode cX10_add 155 = .ok (.aload_n 0, 1) := dw_at cX10_add_k6 (p := 8) rfl (by decide +kernel)
theorem dcX10_add_156 : decode cX10_add 156 = .ok (.getfield 56, 3) := dw_at cX10_add_k6 (p := 9) rfl (by decide +kernel)
theorem dcX10_add_159 : decode cX10_add 159 = .ok (.iastore, 1) := dw_at cX10_add_k6 (p := 12) rfl (by decide +kernel)
theorem dcX10_add_160 : decode cX10_add 160 = .ok (.aload_n 0, 1) := dw_at cX10_add_k6 (p := 13) rfl (by decide +kernel)
theorem dcX10_add_161 : decode cX10_add 161 = .ok (.dup, 1) := dw_at cX10_add_k6 (p := 14) rfl (by decide +kernel)
theorem dcX10_add_162 : decode cX10_add 162 = .ok (.getfield 56, 3) := dw_at cX10_add_k6 (p := 15) rfl (by decide +kernel)
theorem dcX10_add_165 : decode cX10_add 165 = .ok (.iconst 1, 1) := dw_at cX10_add_k6 (p := 18) rfl (by decide +kernel)
theorem dcX10_add_166 : decode cX10_add 166 = .ok (.iadd, 1) := dw_at cX10_add_k6 (p := 19) rfl (by decide +kernel)
theorem dcX10_add_167 : decode cX10_add 167 = .ok (.putfield 56, 3) := dw_at cX10_add_k6 (p := 20) rfl (by decide +kernel)
theorem dcX10_add_170 : decode cX10_add 170 = .ok (.return_, 1) := dw_at cX10_add_k6 (p := 23) rfl (by decide +kernel)
def cm_X10_add_0 (vl : Nat → Nat) (K : Nat) (go : Nat → Int32 → Int32 → Int32 → Int32 → Int32 → Nat → ow_MS → Option ow_MS) (x1 : Int32) (x2 : Int32) (x3 : Int32) (x4 : Int32) (x5 : Int32) (r0 : Nat) (z : ow_MS) : Option ow_MS :=
 rdF z (r0 + 4) fun v1 => go 1 0 v1 0 0 0 r0 z
def cm_X10_add_1 (vl : Nat → Nat) (K : Nat) (go : Nat → Int32 → Int32 → Int32 → Int32 → Int32 → Nat → ow_MS → Option ow_MS) (x1 : Int32) (x2 : Int32) (x3 : Int32) (x4 : Int32) (x5 : Int32) (r0 : Nat) (z : ow_MS) : Option ow_MS :=
 (if 16 ≤ x3 then go 3 x1 x2 x3 0 0 r0 z
 else (if x2 ≤ x1 then go 3 x1 x2 x3 0 0 r0 z
 else crI (cX vl) z (r0 + 6) ((((x1 + x2) : Int32).toUInt32 >>> ((1 : Int32).toUInt32 &&& Int32.toUInt32 31)).toInt32) fun v2 => cs1 (ce_X10_compare vl K r0 (r0 + 5) (v2 * 20) ((r0 + 1000) + 4) 0 z) fun v4 z3 => (if v4 = 0 then some z3
 else (if 0 ≤ v4 then go 2 x1 ((((x1 + x2) : Int32).toUInt32 >>> ((1 : Int32).toUInt32 &&& Int32.toUInt32 31)).toInt32) x3 ((((x1 + x2) : Int32).toUInt32 >>> ((1 : Int32).toUInt32 &&& Int32.toUInt32 31)).toInt32) v4 r0 z3
 else go 2 (((((x1 + x2) : Int32).toUInt32 >>> ((1 : Int32).toUInt32 &&& Int32.toUInt32 31)).toInt32) + 1) x2 x3 ((((x1 + x2) : Int32).toUInt32 >>> ((1 : Int32).toUInt32 &&& Int32.toUInt32 31)).toInt32) v4 r0 z3))))
def cm_X10_add_2 (vl : Nat → Nat) (K : Nat) (go : Nat → Int32 → Int32 → Int32 → Int32 → Int32 → Nat → ow_MS → Option ow_MS) (x1 : Int32) (x2 : Int32) (x3 : Int32) (x4 : Int32) (x5 : Int32) (r0 : Nat) (z : ow_MS) : Option ow_MS :=
 go 1 x1 x2 (x3 + 1) 0 0 r0 z
def cm_X10_add_3 (vl : Nat → Nat) (K : Nat) (go : Nat → Int32 → Int32 → Int32 → Int32 → Int32 → Nat → ow_MS → Option ow_MS) (x1 : Int32) (x2 : Int32) (x3 : Int32) (x4 : Int32) (x5 : Int32) (r0 : Nat) (z : ow_MS) : Option ow_MS :=
 rdF z (r0 + 4) fun v5 => (if 200 < v5 then some z
 else rdF z (r0 + 3) fun v6 => (if v6 ≤ 20 then rdF z (r0 + 4) fun v7 => rdF z (r0 + 3) fun v8 => cpI (cX vl) z ((r0 + 1000) + 4) 0 (r0 + 5) (v7 * 20) v8 fun z9 => rdF z9 (r0 + 4) fun v10 => cpI (cX vl) z9 (r0 + 6) x1 (r0 + 6) (x1 + 1) (v10 - x1) fun z11 => rdF z11 (r0 + 4) fun v12 => ctI (cX vl) z11 (r0 + 6) x1 v12 fun z13 => rdF z13 (r0 + 4) fun v14 => wrF z13 (r0 + 4) (v14 + 1) fun z15 => some z15
 else some z))
def cb_X10_add (vl : Nat → Nat) (K : Nat) (go : Nat → Int32 → Int32 → Int32 → Int32 → Int32 → Nat → ow_MS → Option ow_MS) (L : Nat) (x1 : Int32) (x2 : Int32) (x3 : Int32) (x4 : Int32) (x5 : Int32) (r0 : Nat) (z : ow_MS) : Option ow_MS := match L with
  | 0 => cm_X10_add_0 vl K go x1 x2 x3 x4 x5 r0 z
  | 1 => cm_X10_add_1 vl K go x1 x2 x3 x4 x5 r0 z
  | 2 => cm_X10_add_2 vl K go x1 x2 x3 x4 x5 r0 z
  | 3 => cm_X10_add_3 vl K go x1 x2 x3 x4 x5 r0 z
  | _ => none
def c_X10_add (vl : Nat → Nat) (K : Nat) : Nat → Nat → Int32 → Int32 → Int32 → Int32 → Int32 → Nat → ow_MS → Option ow_MS
  | 0 => fun _ _ _ _ _ _ _ _ => none
  | k + 1 => cb_X10_add vl K (c_X10_add vl K k)
def ce_X10_add (vl : Nat → Nat) (K : Nat) (r0 : Nat) (z : ow_MS) : Option ow_MS := c_X10_add vl K K 0 0 0 0 0 0 r0 z
abbrev wc_X10_add : List Cond := .code yX10_add cX10_add 6 none :: wC
theorem cdd_X10_add : yX10_add.cls = RX10 ∧ yX10_add.cls ≠ "java/lang/invoke/MethodHandle" ∧ yX10_add.cls ≠ "java/lang/invoke/VarHandle" ∧ (parseMethodDescriptor yX10_add.desc).map (fun d => d.parameters.length) = some 0 := by decide +kernel
set_option maxHeartbeats 4000000 in
set_option maxRecDepth 100000 in
theorem kc_X10_add (l : Launch) (D : va_G) (q : Nat → ClassId) (vl u : Nat → Nat) (hU0 : tw_inj (cX vl) u) (K : Nat) (r0 : Nat) (hr0 : cw_X10 r0) (z z1 : ow_MS) (hq : ce_X10_add vl K r0 z = some z1) : Met l yX10_add wc_X10_add ({ frames := 1, cells := 0, slots := 0, locals := 60 } : Room) (va_Pc [.ref (u r0)] (cw_pre D q vl u z)) (va_Qv (fun (_ : Unit) => True) (fun _ t => va_P D vwCl (uw (cX vl) q u z1) t.heap) (tw_A (cX vl) u)) 0 0 (tw_A (cX vl) u) := by
  refine Met.ofW (cc := cX10_add) (maxL := 6) (ret := none) (by decide) rfl ?_
  intro p e s m args below meth c s₁ B hml hv
  obtain ⟨rfl, hP, hK⟩ := hv
  have hx := B.exec
  have hb := B.bytes
  have hr := B.returns
  have hts := atoms_spec (ws := wc_X10_add) B.pre
  have hT : ∀ w ∈ wC, w.before ([.ref (u r0)] : List Value).toArray s = true := fun w h => hts w (List.mem_cons_of_mem _ h)
  have hown : s.vm.findClass RX10 = some m.cls := findClass_of_methodNamed B.named
  have hlocks := B.notSynchronized
  have hU : uw_inj (cX vl) u (tw_A (cX vl) u) := ⟨hU0, fun h hh => ⟨h, hh, rfl⟩⟩
  have hM : uw_M D vwCl (cX vl) q (tw_A (cX vl) u) s.heap u z s.heap [] := ⟨hP, va_S.rf⟩
  have hl := lv_entry ([.ref (u r0)]) (n := 6) (Nat.le_of_ble_eq_true rfl)
  rw [lg_entry_eq]
  generalize (lg_sl ([.ref (u r0)]) ++ List.replicate (6 - (lg_sl ([.ref (u r0)])).length) Slot.unset).toArray = ls at hl ⊢
  have hl : lv_has ls 6 [(0, .ref (u r0))] := hl
  refine ow_named (fun QQ hQQ => ?_)
  generalize ([.ref (u r0)] : List Value).toArray = args at hts hT hQQ ⊢
  have key : ∀ k : Nat, (∀ (x1 : Int32) (x2 : Int32) (x3 : Int32) (x4 : Int32) (x5 : Int32) (r0 : Nat) (z : ow_MS) (H : Heap) (locs : List Loc) (ls : Array Slot), cw_X10 r0 → uw_M D vwCl (cX vl) q (tw_A (cX vl) u) s.heap u z H locs → lv_has ls 6 [(0, .ref (u r0))] → c_X10_add vl K k 0 x1 x2 x3 x4 x5 r0 z = some z1 → W p l e ({ frames := 1, cells := 0, slots := 0, locals := 60 } : Room) s m args below meth c H locs 0 0 QQ (F0 m 0 ls [])) ∧ (∀ (x1 : Int32) (x2 : Int32) (x3 : Int32) (x4 : Int32) (x5 : Int32) (r0 : Nat) (z : ow_MS) (H : Heap) (locs : List Loc) (ls : Array Slot), cw_X10 r0 → uw_M D vwCl (cX vl) q (tw_A (cX vl) u) s.heap u z H locs → lv_has ls 6 [(0, .ref (u r0)), (1, .int x1), (2, .int x2), (3, .int x3)] → c_X10_add vl K k 1 x1 x2 x3 x4 x5 r0 z = some z1 → W p l e ({ frames := 1, cells := 0, slots := 0, locals := 60 } : Room) s m args below meth c H locs 0 0 QQ (F0 m 9 ls [])) ∧ (∀ (x1 : Int32) (x2 : Int32) (x3 : Int32) (x4 : Int32) (x5 : Int32) (r0 : Nat) (z : ow_MS) (H : Heap) (locs : List Loc) (ls : Array Slot), cw_X10 r0 → uw_M D vwCl (cX vl) q (tw_A (cX vl) u) s.heap u z H locs → lv_has ls 6 [(0, .ref (u r0)), (1, .int x1), (2, .int x2), (3, .int x3), (4, .int x4), (5, .int x5)] → c_X10_add vl K k 2 x1 x2 x3 x4 x5 r0 z = some z1 → W p l e ({ frames := 1, cells := 0, slots := 0, locals := 60 } : Room) s m args below meth c H locs 0 0 QQ (F0 m 77 ls [])) ∧ (∀ (x1 : Int32) (x2 : Int32) (x3 : Int32) (x4 : Int32) (x5 : Int32) (r0 : Nat) (z : ow_MS) (H : Heap) (locs : List Loc) (ls : Array Slot), cw_X10 r0 → uw_M D vwCl (cX vl) q (tw_A (cX vl) u) s.heap u z H locs → lv_has ls 6 [(0, .ref (u r0)), (1, .int x1), (2, .int x2), (3, .int x3)] → c_X10_add vl K k 3 x1 x2 x3 x4 x5 r0 z = some z1 → W p l e ({ frames := 1, cells := 0, slots := 0, locals := 60 } : Room) s m args below meth c H locs 0 0 QQ (F0 m 83 ls [])) := by
    intro k
    induction k with
    | zero => exact ⟨fun _ _ _ _ _ _ _ _ _ _ _ _ _ hq => cw_no hq, fun _ _ _ _ _ _ _ _ _ _ _ _ _ hq => cw_no hq, fun _ _ _ _ _ _ _ _ _ _ _ _ _ hq => cw_no hq, fun _ _ _ _ _ _ _ _ _ _ _ _ _ hq => cw_no hq⟩
    | succ k ih =>
      obtain ⟨ih_0, ih_1, ih_2, ih_3⟩ := ih
      refine ⟨?_, ?_, ?_, ?_⟩
      · intro x1 x2 x3 x4 x5 r0 z H locs ls hr0 hM hl hq
        have hq : cm_X10_add_0 vl K (c_X10_add vl K k) x1 x2 x3 x4 x5 r0 z = some z1 := hq
        unfold cm_X10_add_0 at hq
        refine lv_iconst (v := 0) hx hb dcX10_add_0 (by decide) ?_
        refine lv_istore_n (lv' := [(1, .int 0), (0, .ref (u r0))]) hx hb dcX10_add_1 rfl hl (by decide) rfl (fun ls hl => ?_)
        refine lv_aload_n hx hb dcX10_add_2 rfl (lv_at hl 1 rfl) ?_
        refine vgX10_56 hx hb hT hown hK hM hr0 hq dcX10_add_3 (fun v1 hq => ?_)
        refine lv_istore_n (lv' := [(2, .int v1), (1, .int 0), (0, .ref (u r0))]) hx hb dcX10_add_6 rfl hl (by decide) rfl (fun ls hl => ?_)
        refine lv_iconst (v := 0) hx hb dcX10_add_7 (by decide) ?_
        refine lv_istore_n (lv' := [(3, .int 0), (2, .int v1), (1, .int 0), (0, .ref (u r0))]) hx hb dcX10_add_8 rfl hl (by decide) rfl (fun ls hl => ?_)
        exact ih_1 0 v1 0 0 0 r0 z H locs ls hr0 hM (lv_sub hl [3, 2, 1, 0] rfl) hq
      · intro x1 x2 x3 x4 x5 r0 z H locs ls hr0 hM hl hq
        have hq : cm_X10_add_1 vl K (c_X10_add vl K k) x1 x2 x3 x4 x5 r0 z = some z1 := hq
        unfold cm_X10_add_1 at hq
        refine lv_iload_n hx hb dcX10_add_9 rfl (lv_at hl 3 rfl) ?_
        refine lv_bipush (v := 16) hx hb dcX10_add_10 (by decide) ?_
        refine lv_icmp_ge (tgt := 83) hx hb dcX10_add_12 (by decide) (fun hc => ?_) (fun hc => ?_)
        · have hq := tw_it hq hc
          exact ih_3 x1 x2 x3 0 0 r0 z H locs ls hr0 hM (lv_sub hl [0, 1, 2, 3] rfl) hq
        · have hq := tw_if hq hc
          refine lv_iload_n hx hb dcX10_add_15 rfl (lv_at hl 1 rfl) ?_
          refine lv_iload_n hx hb dcX10_add_16 rfl (lv_at hl 2 rfl) ?_
          refine lv_icmp_ge (tgt := 83) hx hb dcX10_add_17 (by decide) (fun hc => ?_) (fun hc => ?_)
          · have hq := tw_it hq hc
            exact ih_3 x1 x2 x3 0 0 r0 z H locs ls hr0 hM (lv_sub hl [0, 1, 2, 3] rfl) hq
          · have hq := tw_if hq hc
            refine lv_iload_n hx hb dcX10_add_20 rfl (lv_at hl 1 rfl) ?_
            refine lv_iload_n hx hb dcX10_add_21 rfl (lv_at hl 2 rfl) ?_
            refine lv_iadd hx hb dcX10_add_22 ?_
            refine lv_iconst (v := 1) hx hb dcX10_add_23 (by decide) ?_
            refine lv_iushr hx hb dcX10_add_24 rfl ?_
            refine lv_istore (lv' := [(4, .int ((((x1 + x2) : Int32).toUInt32 >>> ((1 : Int32).toUInt32 &&& Int32.toUInt32 31)).toInt32)), (0, .ref (u r0)), (1, .int x1), (2, .int x2), (3, .int x3)]) hx hb dcX10_add_25 hl (by decide) rfl (fun ls hl => ?_)
            refine lv_aload_n hx hb dcX10_add_27 rfl (lv_at hl 1 rfl) ?_
            refine lv_aload_n hx hb dcX10_add_28 rfl (lv_at hl 1 rfl) ?_
            refine vgX10_11 hx hb hT hown hK hM hr0 dcX10_add_29 ?_
            refine lv_aload_n hx hb dcX10_add_32 rfl (lv_at hl 1 rfl) ?_
            refine vgX10_15 hx hb hT hown hK hM hr0 dcX10_add_33 ?_
            refine lv_iload hx hb dcX10_add_36 (lv_at hl 0 rfl) ?_
            refine uw_iald cX_ok hx hb hK hM (cr_X10_5 hr0) hq dcX10_add_38 (fun v2 hq => ?_)
            refine lv_bipush (v := 20) hx hb dcX10_add_39 (by decide) ?_
            refine lv_imul hx hb dcX10_add_41 ?_
            refine lv_aload_n hx hb dcX10_add_42 rfl (lv_at hl 1 rfl) ?_
            refine vgX10_21 hx hb hT hown hK hM hr0 dcX10_add_43 ?_
            refine vgX10_96 hx hb hT hown hK hM (cs_X10_6 hr0) dcX10_add_46 ?_
            refine lv_iconst (v := 0) hx hb dcX10_add_49 (by decide) ?_
            obtain ⟨v4, z3, hcq, hq⟩ := tw_cl1 hq
            refine uw_cali hU hM (va_runV (As := [.ref (u (r0 + 5)), .int (v2 * 20), .ref (u ((r0 + 1000) + 4)), .int 0]) (rest := []) ⟨hx, hb, hml, hown, hts⟩ (kc_X10_compare l D q vl u hU.1 K r0 (r0 + 5) (v2 * 20) ((r0 + 1000) + 4) 0 hr0 (cr_X10_4 hr0) (cr_X5_3 (cs_X10_6 hr0)) z z3 v4 hcq) (cwV 4 hts (tw_gV wC_good xq_741 xq_742 xq_743 xq_704 xq_744) rfl rfl rfl cdd_X10_compare ⟨(Nat.le_of_ble_eq_true rfl), (Nat.le_of_ble_eq_true rfl)⟩) (cw_preV hK hM (co_X10 hr0) rfl) rfl rfl hl.1 rfl (lv_room (Nat.le_of_ble_eq_true rfl)) dcX10_add_50 ⟨(Nat.le_of_ble_eq_true rfl), (Nat.le_of_ble_eq_true rfl)⟩) (fun H locs hM => ?_)
            refine lv_istore (lv' := [(5, .int v4), (4, .int ((((x1 + x2) : Int32).toUInt32 >>> ((1 : Int32).toUInt32 &&& Int32.toUInt32 31)).toInt32)), (0, .ref (u r0)), (1, .int x1), (2, .int x2), (3, .int x3)]) hx hb dcX10_add_53 hl (by decide) rfl (fun ls hl => ?_)
            refine lv_iload hx hb dcX10_add_55 (lv_at hl 0 rfl) ?_
            refine lv_if_ne (tgt := 61) hx hb dcX10_add_57 (by decide) (fun hc => ?_) (fun hc => ?_)
            · have hq := tw_if hq hc
              refine lv_iload hx hb dcX10_add_61 (lv_at hl 0 rfl) ?_
              refine lv_if_ge (tgt := 74) hx hb dcX10_add_63 (by decide) (fun hc => ?_) (fun hc => ?_)
              · have hq := tw_it hq hc
                refine lv_iload hx hb dcX10_add_74 (lv_at hl 1 rfl) ?_
                refine lv_istore_n (lv' := [(2, .int ((((x1 + x2) : Int32).toUInt32 >>> ((1 : Int32).toUInt32 &&& Int32.toUInt32 31)).toInt32)), (5, .int v4), (4, .int ((((x1 + x2) : Int32).toUInt32 >>> ((1 : Int32).toUInt32 &&& Int32.toUInt32 31)).toInt32)), (0, .ref (u r0)), (1, .int x1), (3, .int x3)]) hx hb dcX10_add_76 rfl hl (by decide) rfl (fun ls hl => ?_)
                exact ih_2 x1 ((((x1 + x2) : Int32).toUInt32 >>> ((1 : Int32).toUInt32 &&& Int32.toUInt32 31)).toInt32) x3 ((((x1 + x2) : Int32).toUInt32 >>> ((1 : Int32).toUInt32 &&& Int32.toUInt32 31)).toInt32) v4 r0 z3 H locs ls hr0 hM (lv_sub hl [3, 4, 0, 5, 2, 1] rfl) hq
              · have hq := tw_if hq hc
                refine lv_iload hx hb dcX10_add_66 (lv_at hl 1 rfl) ?_
                refine lv_iconst (v := 1) hx hb dcX10_add_68 (by decide) ?_
                refine lv_iadd hx hb dcX10_add_69 ?_
                refine lv_istore_n (lv' := [(1, .int (((((x1 + x2) : Int32).toUInt32 >>> ((1 : Int32).toUInt32 &&& Int32.toUInt32 31)).toInt32) + 1)), (5, .int v4), (4, .int ((((x1 + x2) : Int32).toUInt32 >>> ((1 : Int32).toUInt32 &&& Int32.toUInt32 31)).toInt32)), (0, .ref (u r0)), (2, .int x2), (3, .int x3)]) hx hb dcX10_add_70 rfl hl (by decide) rfl (fun ls hl => ?_)
                refine lv_goto (tgt := 77) hx hb dcX10_add_71 (by decide) ?_
                exact ih_2 (((((x1 + x2) : Int32).toUInt32 >>> ((1 : Int32).toUInt32 &&& Int32.toUInt32 31)).toInt32) + 1) x2 x3 ((((x1 + x2) : Int32).toUInt32 >>> ((1 : Int32).toUInt32 &&& Int32.toUInt32 31)).toInt32) v4 r0 z3 H locs ls hr0 hM (lv_sub hl [3, 0, 4, 5, 2, 1] rfl) hq
            · have hq := tw_it hq hc
              exact cw_vret hx hb hr hlocks hM hq hQQ dcX10_add_60
      · intro x1 x2 x3 x4 x5 r0 z H locs ls hr0 hM hl hq
        have hq : cm_X10_add_2 vl K (c_X10_add vl K k) x1 x2 x3 x4 x5 r0 z = some z1 := hq
        unfold cm_X10_add_2 at hq
        refine lv_iinc (v := (x3 + 1)) (lv' := [(3, .int (x3 + 1)), (0, .ref (u r0)), (1, .int x1), (2, .int x2), (4, .int x4), (5, .int x5)]) hx hb dcX10_add_77 hl (k := 3) rfl rfl (by decide) rfl (fun ls hl => ?_)
        refine lv_goto (tgt := 9) hx hb dcX10_add_80 (by decide) ?_
        exact ih_1 x1 x2 (x3 + 1) 0 0 r0 z H locs ls hr0 hM (lv_sub hl [1, 2, 3, 0] rfl) hq
      · intro x1 x2 x3 x4 x5 r0 z H locs ls hr0 hM hl hq
        have hq : cm_X10_add_3 vl K (c_X10_add vl K k) x1 x2 x3 x4 x5 r0 z = some z1 := hq
        unfold cm_X10_add_3 at hq
        refine lv_aload_n hx hb dcX10_add_83 rfl (lv_at hl 0 rfl) ?_
        refine vgX10_56 hx hb hT hown hK hM hr0 hq dcX10_add_84 (fun v5 hq => ?_)
        refine lv_sipush (v := 200) hx hb dcX10_add_87 (by decide) ?_
        refine lv_icmp_gt (tgt := 102) hx hb dcX10_add_90 (by decide) (fun hc => ?_) (fun hc => ?_)
        · have hq := tw_it hq hc
          exact cw_vret hx hb hr hlocks hM hq hQQ dcX10_add_102
        · have hq := tw_if hq hc
          refine lv_aload_n hx hb dcX10_add_93 rfl (lv_at hl 0 rfl) ?_
          refine vgX10_88 hx hb hT hown hK hM hr0 hq dcX10_add_94 (fun v6 hq => ?_)
          refine lv_bipush (v := 20) hx hb dcX10_add_97 (by decide) ?_
          refine lv_icmp_le (tgt := 103) hx hb dcX10_add_99 (by decide) (fun hc => ?_) (fun hc => ?_)
          · have hq := tw_it hq hc
            refine lv_aload_n hx hb dcX10_add_103 rfl (lv_at hl 0 rfl) ?_
            refine vgX10_21 hx hb hT hown hK hM hr0 dcX10_add_104 ?_
            refine vgX10_96 hx hb hT hown hK hM (cs_X10_6 hr0) dcX10_add_107 ?_
            refine lv_iconst (v := 0) hx hb dcX10_add_110 (by decide) ?_
            refine lv_aload_n hx hb dcX10_add_111 rfl (lv_at hl 0 rfl) ?_
            refine vgX10_11 hx hb hT hown hK hM hr0 dcX10_add_112 ?_
            refine lv_aload_n hx hb dcX10_add_115 rfl (lv_at hl 0 rfl) ?_
            refine vgX10_56 hx hb hT hown hK hM hr0 hq dcX10_add_116 (fun v7 hq => ?_)
            refine lv_bipush (v := 20) hx hb dcX10_add_119 (by decide) ?_
            refine lv_imul hx hb dcX10_add_121 ?_
            refine lv_aload_n hx hb dcX10_add_122 rfl (lv_at hl 0 rfl) ?_
            refine vgX10_88 hx hb hT hown hK hM hr0 hq dcX10_add_123 (fun v8 hq => ?_)
            refine uw_cpI cX_ok hU hx hb (by rw [hml]; exact hl.1.symm) hown (hT _ xq_740) (hT _ xq_130) (hT _ xq_131) (hT _ xq_132) hK hM (cr_X5_3 (cs_X10_6 hr0)) (cr_X10_4 hr0) hq (Nat.le_of_ble_eq_true rfl) (by decide) dcX10_add_126 (fun z9 H locs hM hq => ?_)
            refine lv_aload_n hx hb dcX10_add_129 rfl (lv_at hl 0 rfl) ?_
            refine vgX10_15 hx hb hT hown hK hM hr0 dcX10_add_130 ?_
            refine lv_iload_n hx hb dcX10_add_133 rfl (lv_at hl 1 rfl) ?_
            refine lv_aload_n hx hb dcX10_add_134 rfl (lv_at hl 0 rfl) ?_
            refine vgX10_15 hx hb hT hown hK hM hr0 dcX10_add_135 ?_
            refine lv_iload_n hx hb dcX10_add_138 rfl (lv_at hl 1 rfl) ?_
            refine lv_iconst (v := 1) hx hb dcX10_add_139 (by decide) ?_
            refine lv_iadd hx hb dcX10_add_140 ?_
            refine lv_aload_n hx hb dcX10_add_141 rfl (lv_at hl 0 rfl) ?_
            refine vgX10_56 hx hb hT hown hK hM hr0 hq dcX10_add_142 (fun v10 hq => ?_)
            refine lv_iload_n hx hb dcX10_add_145 rfl (lv_at hl 1 rfl) ?_
            refine lv_isub hx hb dcX10_add_146 ?_
            refine uw_cpI cX_ok hU hx hb (by rw [hml]; exact hl.1.symm) hown (hT _ xq_740) (hT _ xq_130) (hT _ xq_131) (hT _ xq_132) hK hM (cr_X10_5 hr0) (cr_X10_5 hr0) hq (Nat.le_of_ble_eq_true rfl) (by decide) dcX10_add_147 (fun z11 H locs hM hq => ?_)
            refine lv_aload_n hx hb dcX10_add_150 rfl (lv_at hl 0 rfl) ?_
            refine vgX10_15 hx hb hT hown hK hM hr0 dcX10_add_151 ?_
            refine lv_iload_n hx hb dcX10_add_154 rfl (lv_at hl 1 rfl) ?_
            refine lv_aload_n hx hb dcX10_add_155 rfl (lv_at hl 0 rfl) ?_
            refine vgX10_56 hx hb hT hown hK hM hr0 hq dcX10_add_156 (fun v12 hq => ?_)
            refine uw_iast cX_ok hU hx hb hK hM (cr_X10_5 hr0) hq dcX10_add_159 (fun z13 H locs hM hq => ?_)
            refine lv_aload_n hx hb dcX10_add_160 rfl (lv_at hl 0 rfl) ?_
            refine lv_dup hx hb dcX10_add_161 rfl ?_
            refine vgX10_56 hx hb hT hown hK hM hr0 hq dcX10_add_162 (fun v14 hq => ?_)
            refine lv_iconst (v := 1) hx hb dcX10_add_165 (by decide) ?_
            refine lv_iadd hx hb dcX10_add_166 ?_
            refine vpX10_56 hx hb hT hown hK hM hU hr0 hq dcX10_add_167 (fun z15 H locs hM hq => ?_)
            exact cw_vret hx hb hr hlocks hM hq hQQ dcX10_add_170
          · have hq := tw_if hq hc
            exact cw_vret hx hb hr hlocks hM hq hQQ dcX10_add_102
  exact (key K).1 0 0 0 0 0 r0 z s.heap [] ls hr0 hM (lv_sub hl [0] rfl) hq
theorem dcX10_begin_0 : decode cX10_begin 0 = .ok (.aload_n 0, 1) := by decide +kernel
theorem dcX10_begin_1 : decode cX10_begin 1 = .ok (.aload_n 0, 1) := by decide +kernel
theorem dcX10_begin_2 : decode cX10_begin 2 = .ok (.getfield 21, 3) := by decide +kernel
theorem dcX10_begin_5 : decode cX10_begin 5 = .ok (.getfield 75, 3) := by decide +kernel
theorem dcX10_begin_8 : decode cX10_begin 8 = .ok (.putfield 87, 3) := by decide +kernel
theorem dcX10_begin_11 : decode cX10_begin 11 = .ok (.aload_n 0, 1) := by decide +kernel
theorem dcX10_begin_12 : decode cX10_begin 12 = .ok (.aload_n 0, 1) := by decide +kernel
theorem dcX10_begin_13 : decode cX10_begin 13 = .ok (.getfield 21, 3) := by decide +kernel
theorem dcX10_begin_16 : decode cX10_begin 16 = .ok (.getfield 81, 3) := by decide +kernel
theorem dcX10_begin_19 : decode cX10_begin 19 = .ok (.putfield 88, 3) := by decide +kernel
theorem dcX10_begin_22 : decode cX10_begin 22 = .ok (.aload_n 0, 1) := by decide +kernel
theorem dcX10_begin_23 : decode cX10_begin 23 = .ok (.iconst 0, 1) := by decide +kernel
theorem dcX10_begin_24 : decode cX10_begin 24 = .ok (.putfield 56, 3) := by decide +kernel
theorem dcX10_begin_27 : decode cX10_begin 27 = .ok (.aload_n 0, 1) := by decide +kernel
theorem dcX10_begin_28 : decode cX10_begin 28 = .ok (.invokevirtual 89, 3) := by decide +kernel
theorem dcX10_begin_31 : decode cX10_begin 31 = .ok (.return_, 1) := by decide +kernel
def cm_X10_begin_0 (vl : Nat → Nat) (K : Nat) (r0 : Nat) (z : ow_MS) : Option ow_MS :=
 rdF z ((r0 + 1000) + 2) fun v1 => wrF z (r0 + 2) v1 fun z2 => rdF z2 ((r0 + 1000) + 3) fun v3 => wrF z2 (r0 + 3) v3 fun z4 => wrF z4 (r0 + 4) 0 fun z5 => cs0 (ce_X10_add vl K r0 z5) fun z6 => some z6
def ce_X10_begin (vl : Nat → Nat) (K : Nat) (r0 : Nat) (z : ow_MS) : Option ow_MS := cm_X10_begin_0 vl K r0 z
abbrev wc_X10_begin : List Cond := .code yX10_begin cX10_begin 1 none :: wC
theorem cdd_X10_begin : yX10_begin.cls = RX10 ∧ yX10_begin.cls ≠ "java/lang/invoke/MethodHandle" ∧ yX10_begin.cls ≠ "java/lang/invoke/VarHandle" ∧ (parseMethodDescriptor yX10_begin.desc).map (fun d => d.parameters.length) = some 0 := by decide +kernel
set_option maxHeartbeats 4000000 in
set_option maxRecDepth 100000 in
theorem kc_X10_begin (l : Launch) (D : va_G) (q : Nat → ClassId) (vl u : Nat → Nat) (hU0 : tw_inj (cX vl) u) (K : Nat) (r0 : Nat) (hr0 : cw_X10 r0) (z z1 : ow_MS) (hq : ce_X10_begin vl K r0 z = some z1) : Met l yX10_begin wc_X10_begin ({ frames := 2, cells := 0, slots := 0, locals := 85 } : Room) (va_Pc [.ref (u r0)] (cw_pre D q vl u z)) (va_Qv (fun (_ : Unit) => True) (fun _ t => va_P D vwCl (uw (cX vl) q u z1) t.heap) (tw_A (cX vl) u)) 0 0 (tw_A (cX vl) u) := by
  refine Met.ofW (cc := cX10_begin) (maxL := 1) (ret := none) (by decide) rfl ?_
  intro p e s m args below meth c s₁ B hml hv
  obtain ⟨rfl, hP, hK⟩ := hv
  have hx := B.exec
  have hb := B.bytes
  have hr := B.returns
  have hts := atoms_spec (ws := wc_X10_begin) B.pre
  have hT : ∀ w ∈ wC, w.before ([.ref (u r0)] : List Value).toArray s = true := fun w h => hts w (List.mem_cons_of_mem _ h)
  have hown : s.vm.findClass RX10 = some m.cls := findClass_of_methodNamed B.named
  have hlocks := B.notSynchronized
  have hU : uw_inj (cX vl) u (tw_A (cX vl) u) := ⟨hU0, fun h hh => ⟨h, hh, rfl⟩⟩
  have hM : uw_M D vwCl (cX vl) q (tw_A (cX vl) u) s.heap u z s.heap [] := ⟨hP, va_S.rf⟩
  have hl := lv_entry ([.ref (u r0)]) (n := 1) (Nat.le_of_ble_eq_true rfl)
  rw [lg_entry_eq]
  generalize (lg_sl ([.ref (u r0)]) ++ List.replicate (1 - (lg_sl ([.ref (u r0)])).length) Slot.unset).toArray = ls at hl ⊢
  have hl : lv_has ls 1 [(0, .ref (u r0))] := hl
  refine ow_named (fun QQ hQQ => ?_)
  generalize ([.ref (u r0)] : List Value).toArray = args at hts hT hQQ ⊢
  have hq : cm_X10_begin_0 vl K r0 z = some z1 := hq
  unfold cm_X10_begin_0 at hq
  suffices key : ∀ (H : Heap) (locs : List Loc), uw_M D vwCl (cX vl) q (tw_A (cX vl) u) s.heap u z H locs → W p l e ({ frames := 2, cells := 0, slots := 0, locals := 85 } : Room) s m args below meth c H locs 0 0 QQ (F0 m 0 ls []) from key s.heap [] hM
  intro H locs hM
  refine lv_aload_n hx hb dcX10_begin_0 rfl (lv_at hl 0 rfl) ?_
  refine lv_aload_n hx hb dcX10_begin_1 rfl (lv_at hl 0 rfl) ?_
  refine vgX10_21 hx hb hT hown hK hM hr0 dcX10_begin_2 ?_
  refine vgX10_75 hx hb hT hown hK hM (cs_X10_6 hr0) hq dcX10_begin_5 (fun v1 hq => ?_)
  refine vpX10_87 hx hb hT hown hK hM hU hr0 hq dcX10_begin_8 (fun z2 H locs hM hq => ?_)
  refine lv_aload_n hx hb dcX10_begin_11 rfl (lv_at hl 0 rfl) ?_
  refine lv_aload_n hx hb dcX10_begin_12 rfl (lv_at hl 0 rfl) ?_
  refine vgX10_21 hx hb hT hown hK hM hr0 dcX10_begin_13 ?_
  refine vgX10_81 hx hb hT hown hK hM (cs_X10_6 hr0) hq dcX10_begin_16 (fun v3 hq => ?_)
  refine vpX10_88 hx hb hT hown hK hM hU hr0 hq dcX10_begin_19 (fun z4 H locs hM hq => ?_)
  refine lv_aload_n hx hb dcX10_begin_22 rfl (lv_at hl 0 rfl) ?_
  refine lv_iconst (v := 0) hx hb dcX10_begin_23 (by decide) ?_
  refine vpX10_56 hx hb hT hown hK hM hU hr0 hq dcX10_begin_24 (fun z5 H locs hM hq => ?_)
  refine lv_aload_n hx hb dcX10_begin_27 rfl (lv_at hl 0 rfl) ?_
  obtain ⟨z6, hcq, hq⟩ := tw_cl0 hq
  refine uw_calv hU hM (va_runV (As := []) (rest := []) ⟨hx, hb, hml, hown, hts⟩ (kc_X10_add l D q vl u hU.1 K r0 hr0 z5 z6 hcq) (cwV 0 hts (tw_gV wC_good xq_733 xq_734 xq_735 xq_704 xq_736) rfl rfl rfl cdd_X10_add ⟨(Nat.le_of_ble_eq_true rfl), (Nat.le_of_ble_eq_true rfl)⟩) (cw_preV hK hM (co_X10 hr0) rfl) rfl rfl hl.1 rfl (lv_room (Nat.le_of_ble_eq_true rfl)) dcX10_begin_28 ⟨(Nat.le_of_ble_eq_true rfl), (Nat.le_of_ble_eq_true rfl)⟩) (fun H locs hM => ?_)
  exact cw_vret hx hb hr hlocks hM hq hQQ dcX10_begin_31
theorem dcX10_climb_0 : decode cX10_climb 0 = .ok (.iconst 0, 1) := dw_at cX10_climb_k0 (p := 0) rfl (by decide +kernel)
theorem dcX10_climb_1 : decode cX10_climb 1 = .ok (.istore_n 1, 1) := dw_at cX10_climb_k0 (p := 1) rfl (by decide +kernel)
theorem dcX10_climb_2 : decode cX10_climb 2 = .ok (.iconst 0, 1) := dw_at cX10_climb_k0 (p := 2) rfl (by decide +kernel)
theorem dcX10_climb_3 : decode cX10_climb 3 = .ok (.istore_n 2, 1) := dw_at cX10_climb_k0 (p := 3) rfl (by decide +kernel)
theorem dcX10_climb_4 : decode cX10_climb 4 = .ok (.iload_n 2, 1) := dw_at cX10_climb_k0 (p := 4) rfl (by decide +kernel)
theorem dcX10_climb_5 : decode cX10_climb 5 = .ok (.sipush 2000, 3) := dw_at cX10_climb_k0 (p := 5) rfl (by decide +kernel)
theorem dcX10_climb_8 : decode cX10_climb 8 = .ok (.if_icmp .ge 49, 3) := dw_at cX10_climb_k0 (p := 8) rfl (by decide +kernel)
theorem dcX10_climb_11 : decode cX10_climb 11 = .ok (.iload_n 1, 1) := dw_at cX10_climb_k0 (p := 11) rfl (by decide +kernel)
theorem dcX10_climb_12 : decode cX10_climb 12 = .ok (.bipush 30, 2) := dw_at cX10_climb_k0 (p := 12) rfl (by decide +kernel)
theorem dcX10_climb_14 : decode cX10_climb 14 = .ok (.if_icmp .ge 43, 3) := dw_at cX10_climb_k0 (p := 14) rfl (by decide +kernel)
theorem dcX10_climb_17 : decode cX10_climb 17 = .ok (.aload_n 0, 1) := dw_at cX10_climb_k0 (p := 17) rfl (by decide +kernel)
theorem dcX10_climb_18 : decode cX10_climb 18 = .ok (.getfield 21, 3) := dw_at cX10_climb_k0 (p := 18) rfl (by decide +kernel)
theorem dcX10_climb_21 : decode cX10_climb 21 = .ok (.getfield 75, 3) := dw_at cX10_climb_k0 (p := 21) rfl (by decide +kernel)
theorem dcX10_climb_24 : decode cX10_climb 24 = .ok (.istore_n 3, 1) := dw_at cX10_climb_k1 (p := 0) rfl (by decide +kernel)
theorem dcX10_climb_25 : decode cX10_climb 25 = .ok (.aload_n 0, 1) := dw_at cX10_climb_k1 (p := 1) rfl (by decide +kernel)
theorem dcX10_climb_26 : decode cX10_climb 26 = .ok (.getfield 21, 3) := dw_at cX10_climb_k1 (p := 2) rfl (by decide +kernel)
theorem dcX10_climb_29 : decode cX10_climb 29 = .ok (.invokevirtual 78, 3) := dw_at cX10_climb_k1 (p := 5) rfl (by decide +kernel)
theorem dcX10_climb_32 : decode cX10_climb 32 = .ok (.aload_n 0, 1) := dw_at cX10_climb_k1 (p := 8) rfl (by decide +kernel)
theorem dcX10_climb_33 : decode cX10_climb 33 = .ok (.getfield 21, 3) := dw_at cX10_climb_k1 (p := 9) rfl (by decide +kernel)
theorem dcX10_climb_36 : decode cX10_climb 36 = .ok (.getfield 75, 3) := dw_at cX10_climb_k1 (p := 12) rfl (by decide +kernel)
theorem dcX10_climb_39 : decode cX10_climb 39 = .ok (.iload_n 3, 1) := dw_at cX10_climb_k1 (p := 15) rfl (by decide +kernel)
theorem dcX10_climb_40 : decode cX10_climb 40 = .ok (.if_icmp .le 7, 3) := dw_at cX10_climb_k1 (p := 16) rfl (by decide +kernel)
theorem dcX10_climb_43 : decode cX10_climb 43 = .ok (.iconst 0, 1) := dw_at cX10_climb_k1 (p := 19) rfl (by decide +kernel)
theorem dcX10_climb_44 : decode cX10_climb 44 = .ok (.goto 6, 3) := dw_at cX10_climb_k1 (p := 20) rfl (by decide +kernel)
theorem dcX10_climb_47 : decode cX10_climb 47 = .ok (.iload_n 1, 1) := dw_at cX10_climb_k1 (p := 23) rfl (by decide +kernel)
theorem dcX10_climb_48 : decode cX10_climb 48 = .ok (.iconst 1, 1) := dw_at cX10_climb_k2 (p := 0) rfl (by decide +kernel)
theorem dcX10_climb_49 : decode cX10_climb 49 = .ok (.iadd, 1) := dw_at cX10_climb_k2 (p := 1) rfl (by decide +kernel)
theorem dcX10_climb_50 : decode cX10_climb 50 = .ok (.istore_n 1, 1) := dw_at cX10_climb_k2 (p := 2) rfl (by decide +kernel)
theorem dcX10_climb_51 : decode cX10_climb 51 = .ok (.iinc 2 1, 3) := dw_at cX10_climb_k2 (p := 3) rfl (by decide +kernel)
theorem dcX10_climb_54 : decode cX10_climb 54 = .ok (.goto (-50), 3) := dw_at cX10_climb_k2 (p := 6) rfl (by decide +kernel)
theorem dcX10_climb_57 : decode cX10_climb 57 = .ok (.iconst 0, 1) := dw_at cX10_climb_k2 (p := 9) rfl (by decide +kernel)
theorem dcX10_climb_58 : decode cX10_climb 58 = .ok (.istore_n 1, 1) := dw_at cX10_climb_k2 (p := 10) rfl (by decide +kernel)
theorem dcX10_climb_59 : decode cX10_climb 59 = .ok (.iconst 0, 1) := dw_at cX10_climb_k2 (p := 11) rfl (by decide +kernel)
theorem dcX10_climb_60 : decode cX10_climb 60 = .ok (.istore_n 2, 1) := dw_at cX10_climb_k2 (p := 12) rfl (by decide +kernel)
theorem dcX10_climb_61 : decode cX10_climb 61 = .ok (.iload_n 2, 1) := dw_at cX10_climb_k2 (p := 13) rfl (by decide +kernel)
theorem dcX10_climb_62 : decode cX10_climb 62 = .ok (.sipush 2000, 3) := dw_at cX10_climb_k2 (p := 14) rfl (by decide +kernel)
theorem dcX10_climb_65 : decode cX10_climb 65 = .ok (.if_icmp .ge 65, 3) := dw_at cX10_climb_k2 (p := 17) rfl (by decide +kernel)
theorem dcX10_climb_68 : decode cX10_climb 68 = .ok (.iload_n 1, 1) := dw_at cX10_climb_k2 (p := 20) rfl (by decide +kernel)
theorem dcX10_climb_69 : decode cX10_climb 69 = .ok (.bipush 30, 2) := dw_at cX10_climb_k2 (p := 21) rfl (by decide +kernel)
theorem dcX10_climb_71 : decode cX10_climb 71 = .ok (.if_icmp .ge 59, 3) := dw_at cX10_climb_k2 (p := 23) rfl (by decide +kernel)
theorem dcX10_climb_74 : decode cX10_climb 74 = .ok (.aload_n 0, 1) := dw_at cX10_climb_k3 (p := 0) rfl (by decide +kernel)
theorem dcX10_climb_75 : decode cX10_climb 75 = .ok (.getfield 21, 3) := dw_at cX10_climb_k3 (p := 1) rfl (by decide +kernel)
theorem dcX10_climb_78 : decode cX10_climb 78 = .ok (.getfield 75, 3) := dw_at cX10_climb_k3 (p := 4) rfl (by decide +kernel)
theorem dcX10_climb_81 : decode cX10_climb 81 = .ok (.aload_n 0, 1) := dw_at cX10_climb_k3 (p := 7) rfl (by decide +kernel)
theorem dcX10_climb_82 : decode cX10_climb 82 = .ok (.getfield 21, 3) := dw_at cX10_climb_k3 (p := 8) rfl (by decide +kernel)
theorem dcX10_climb_85 : decode cX10_climb 85 = .ok (.getfield 81, 3) := dw_at cX10_climb_k3 (p := 11) rfl (by decide +kernel)
theorem dcX10_climb_88 : decode cX10_climb 88 = .ok (.iadd, 1) := dw_at cX10_climb_k3 (p := 14) rfl (by decide +kernel)
theorem dcX10_climb_89 : decode cX10_climb 89 = .ok (.istore_n 3, 1) := dw_at cX10_climb_k3 (p := 15) rfl (by decide +kernel)
theorem dcX10_climb_90 : decode cX10_climb 90 = .ok (.aload_n 0, 1) := dw_at cX10_climb_k3 (p := 16) rfl (by decide +kernel)
theorem dcX10_climb_91 : decode cX10_climb 91 = .ok (.getfield 21, 3) := dw_at cX10_climb_k3 (p := 17) rfl (by decide +kernel)
theorem dcX10_climb_94 : decode cX10_climb 94 = .ok (.invokevirtual 84, 3) := dw_at cX10_climb_k3 (p := 20) rfl (by decide +kernel)
theorem dcX10_climb_97 : decode cX10_climb 97 = .ok (.aload_n 0, 1) := dw_at cX10_climb_k3 (p := 23) rfl (by decide +kernel)
theorem dcX10_climb_98 : decode cX10_climb 98 = .ok (.getfield 21, 3) := dw_at cX10_climb_k4 (p := 0) rfl (by decide +kernel)
theorem dcX10_climb_101 : decode cX10_climb 101 = .ok (.getfield 75, 3) := dw_at cX10_climb_k4 (p := 3) rfl (by decide +kernel)
theorem dcX10_climb_104 : decode cX10_climb 104 = .ok (.aload_n 0, 1) := dw_at cX10_climb_k4 (p := 6) rfl (by decide +kernel)
theorem dcX10_climb_105 : decode cX10_climb 105 = .ok (.getfield 21, 3) := dw_at cX10_climb_k4 (p := 7) rfl (by decide +kernel)
theorem dcX10_climb_108 : decode cX10_climb 108 = .ok (.getfield 81, 3) := dw_at cX10_climb_k4 (p := 10) rfl (by decide +kernel)
theorem dcX10_climb_111 : decode cX10_climb 111 = .ok (.iadd, 1) := dw_at cX10_climb_k4 (p := 13) rfl (by decide +kernel)
theorem dcX10_climb_112 : decode cX10_climb 112 = .ok (.iload_n 3, 1) := dw_at cX10_climb_k4 (p := 14) rfl (by decide +kernel)
theorem dcX10_climb_113 : decode cX10_climb 113 = .ok (.if_icmp .ge 7, 3) := dw_at cX10_climb_k4 (p := 15) rfl (by decide +kernel)
theorem dcX10_climb_116 : decode cX10_climb 116 = .ok (.iconst 0, 1) := dw_at cX10_climb_k4 (p := 18) rfl (by decide +kernel)
theorem dcX10_climb_117 : decode cX10_climb 117 = .ok (.goto 6, 3) := dw_at cX10_climb_k4 (p := 19) rfl (by decide +kernel)
theorem dcX10_climb_120 : decode cX10_climb 120 = .ok (.iload_n 1, 1) := dw_at cX10_climb_k4 (p := 22) rfl (by decide +kernel)
theorem dcX10_climb_121 : decode cX10_climb 121 = .ok (.iconst 1, 1) := dw_at cX10_climb_k4 (p := 23) rfl (by decide +kernel)
theorem dcX10_climb_122 : decode cX10_climb 122 = .ok (.iadd, 1) := dw_at cX10_climb_k5 (p := 0) rfl (by decide +kernel)
theorem dcX10_climb_123 : decode cX10_climb 123 = .ok (.istore_n 1, 1) := dw_at cX10_climb_k5 (p := 1) rfl (by decide +kernel)
theorem dcX10_climb_124 : decode cX10_climb 124 = .ok (.iinc 2 1, 3) := dw_at cX10_climb_k5 (p := 2) rfl (by decide +kernel)
theorem dcX10_climb_127 : decode cX10_climb 127 = .ok (.goto (-66), 3) := dw_at cX10_climb_k5 (p := 5) rfl (by decide +kernel)
theorem dcX10_climb_130 : decode cX10_climb 130 = .ok (.return_, 1) := dw_at cX10_climb_k5 (p := 8) rfl (by decide +kernel)
def cm_X10_climb_0 (vl : Nat → Nat) (K : Nat) (go : Nat → Int32 → Int32 → Int32 → Nat → Int32 → ow_MS → Option ow_MS) (x1 : Int32) (x2 : Int32) (x3 : Int32) (r0 : Nat) (t0 : Int32) (z : ow_MS) : Option ow_MS :=
 go 1 0 0 0 r0 0 z
def cm_X10_climb_1 (vl : Nat → Nat) (K : Nat) (go : Nat → Int32 → Int32 → Int32 → Nat → Int32 → ow_MS → Option ow_MS) (x1 : Int32) (x2 : Int32) (x3 : Int32) (r0 : Nat) (t0 : Int32) (z : ow_MS) : Option ow_MS :=
 (if 2000 ≤ x2 then go 3 x1 x2 0 r0 0 z
 else (if 30 ≤ x1 then go 3 x1 x2 0 r0 0 z
 else rdF z ((r0 + 1000) + 2) fun v1 => cs0 (ce_X5_cycle vl K (r0 + 1000) z) fun z2 => rdF z2 ((r0 + 1000) + 2) fun v3 => (if v3 ≤ v1 then go 2 x1 x2 v1 r0 (x1 + 1) z2
 else go 2 x1 x2 v1 r0 0 z2)))
def cm_X10_climb_2 (vl : Nat → Nat) (K : Nat) (go : Nat → Int32 → Int32 → Int32 → Nat → Int32 → ow_MS → Option ow_MS) (x1 : Int32) (x2 : Int32) (x3 : Int32) (r0 : Nat) (t0 : Int32) (z : ow_MS) : Option ow_MS :=
 go 1 t0 (x2 + 1) 0 r0 0 z
def cm_X10_climb_3 (vl : Nat → Nat) (K : Nat) (go : Nat → Int32 → Int32 → Int32 → Nat → Int32 → ow_MS → Option ow_MS) (x1 : Int32) (x2 : Int32) (x3 : Int32) (r0 : Nat) (t0 : Int32) (z : ow_MS) : Option ow_MS :=
 go 4 0 0 0 r0 0 z
def cm_X10_climb_4 (vl : Nat → Nat) (K : Nat) (go : Nat → Int32 → Int32 → Int32 → Nat → Int32 → ow_MS → Option ow_MS) (x1 : Int32) (x2 : Int32) (x3 : Int32) (r0 : Nat) (t0 : Int32) (z : ow_MS) : Option ow_MS :=
 (if 2000 ≤ x2 then some z
 else (if 30 ≤ x1 then some z
 else rdF z ((r0 + 1000) + 2) fun v4 => rdF z ((r0 + 1000) + 3) fun v5 => cs0 (ce_X5_decycle vl K (r0 + 1000) z) fun z6 => rdF z6 ((r0 + 1000) + 2) fun v7 => rdF z6 ((r0 + 1000) + 3) fun v8 => (if (v4 + v5) ≤ (v7 + v8) then go 5 x1 x2 (v4 + v5) r0 (x1 + 1) z6
 else go 5 x1 x2 (v4 + v5) r0 0 z6)))
def cm_X10_climb_5 (vl : Nat → Nat) (K : Nat) (go : Nat → Int32 → Int32 → Int32 → Nat → Int32 → ow_MS → Option ow_MS) (x1 : Int32) (x2 : Int32) (x3 : Int32) (r0 : Nat) (t0 : Int32) (z : ow_MS) : Option ow_MS :=
 go 4 t0 (x2 + 1) 0 r0 0 z
def cb_X10_climb (vl : Nat → Nat) (K : Nat) (go : Nat → Int32 → Int32 → Int32 → Nat → Int32 → ow_MS → Option ow_MS) (L : Nat) (x1 : Int32) (x2 : Int32) (x3 : Int32) (r0 : Nat) (t0 : Int32) (z : ow_MS) : Option ow_MS := match L with
  | 0 => cm_X10_climb_0 vl K go x1 x2 x3 r0 t0 z
  | 1 => cm_X10_climb_1 vl K go x1 x2 x3 r0 t0 z
  | 2 => cm_X10_climb_2 vl K go x1 x2 x3 r0 t0 z
  | 3 => cm_X10_climb_3 vl K go x1 x2 x3 r0 t0 z
  | 4 => cm_X10_climb_4 vl K go x1 x2 x3 r0 t0 z
  | 5 => cm_X10_climb_5 vl K go x1 x2 x3 r0 t0 z
  | _ => none
def c_X10_climb (vl : Nat → Nat) (K : Nat) : Nat → Nat → Int32 → Int32 → Int32 → Nat → Int32 → ow_MS → Option ow_MS
  | 0 => fun _ _ _ _ _ _ _ => none
  | k + 1 => cb_X10_climb vl K (c_X10_climb vl K k)
def ce_X10_climb (vl : Nat → Nat) (K : Nat) (r0 : Nat) (z : ow_MS) : Option ow_MS := c_X10_climb vl K K 0 0 0 0 r0 0 z
abbrev wc_X10_climb : List Cond := .code yX10_climb cX10_climb 4 none :: wC
theorem cdd_X10_climb : yX10_climb.cls = RX10 ∧ yX10_climb.cls ≠ "java/lang/invoke/MethodHandle" ∧ yX10_climb.cls ≠ "java/lang/invoke/VarHandle" ∧ (parseMethodDescriptor yX10_climb.desc).map (fun d => d.parameters.length) = some 0 := by decide +kernel
set_option maxHeartbeats 4000000 in
set_option maxRecDepth 100000 in
theorem kc_X10_climb (l : Launch) (D : va_G) (q : Nat → ClassId) (vl u : Nat → Nat) (hU0 : tw_inj (cX vl) u) (K : Nat) (r0 : Nat) (hr0 : cw_X10 r0) (z z1 : ow_MS) (hq : ce_X10_climb vl K r0 z = some z1) : Met l yX10_climb wc_X10_climb ({ frames := 5, cells := 0, slots := 0, locals := 125 } : Room) (va_Pc [.ref (u r0)] (cw_pre D q vl u z)) (va_Qv (fun (_ : Unit) => True) (fun _ t => va_P D vwCl (uw (cX vl) q u z1) t.heap) (tw_A (cX vl) u)) 0 0 (tw_A (cX vl) u) := by
  refine Met.ofW (cc := cX10_climb) (maxL := 4) (ret := none) (by decide) rfl ?_
  intro p e s m args below meth c s₁ B hml hv
  obtain ⟨rfl, hP, hK⟩ := hv
  have hx := B.exec
  have hb := B.bytes
  have hr := B.returns
  have hts := atoms_spec (ws := wc_X10_climb) B.pre
  have hT : ∀ w ∈ wC, w.before ([.ref (u r0)] : List Value).toArray s = true := fun w h => hts w (List.mem_cons_of_mem _ h)
  have hown : s.vm.findClass RX10 = some m.cls := findClass_of_methodNamed B.named
  have hlocks := B.notSynchronized
  have hU : uw_inj (cX vl) u (tw_A (cX vl) u) := ⟨hU0, fun h hh => ⟨h, hh, rfl⟩⟩
  have hM : uw_M D vwCl (cX vl) q (tw_A (cX vl) u) s.heap u z s.heap [] := ⟨hP, va_S.rf⟩
  have hl := lv_entry ([.ref (u r0)]) (n := 4) (Nat.le_of_ble_eq_true rfl)
  rw [lg_entry_eq]
  generalize (lg_sl ([.ref (u r0)]) ++ List.replicate (4 - (lg_sl ([.ref (u r0)])).length) Slot.unset).toArray = ls at hl ⊢
  have hl : lv_has ls 4 [(0, .ref (u r0))] := hl
  refine ow_named (fun QQ hQQ => ?_)
  generalize ([.ref (u r0)] : List Value).toArray = args at hts hT hQQ ⊢
  have key : ∀ k : Nat, (∀ (x1 : Int32) (x2 : Int32) (x3 : Int32) (r0 : Nat) (t0 : Int32) (z : ow_MS) (H : Heap) (locs : List Loc) (ls : Array Slot), cw_X10 r0 → uw_M D vwCl (cX vl) q (tw_A (cX vl) u) s.heap u z H locs → lv_has ls 4 [(0, .ref (u r0))] → c_X10_climb vl K k 0 x1 x2 x3 r0 t0 z = some z1 → W p l e ({ frames := 5, cells := 0, slots := 0, locals := 125 } : Room) s m args below meth c H locs 0 0 QQ (F0 m 0 ls [])) ∧ (∀ (x1 : Int32) (x2 : Int32) (x3 : Int32) (r0 : Nat) (t0 : Int32) (z : ow_MS) (H : Heap) (locs : List Loc) (ls : Array Slot), cw_X10 r0 → uw_M D vwCl (cX vl) q (tw_A (cX vl) u) s.heap u z H locs → lv_has ls 4 [(0, .ref (u r0)), (1, .int x1), (2, .int x2)] → c_X10_climb vl K k 1 x1 x2 x3 r0 t0 z = some z1 → W p l e ({ frames := 5, cells := 0, slots := 0, locals := 125 } : Room) s m args below meth c H locs 0 0 QQ (F0 m 4 ls [])) ∧ (∀ (x1 : Int32) (x2 : Int32) (x3 : Int32) (r0 : Nat) (t0 : Int32) (z : ow_MS) (H : Heap) (locs : List Loc) (ls : Array Slot), cw_X10 r0 → uw_M D vwCl (cX vl) q (tw_A (cX vl) u) s.heap u z H locs → lv_has ls 4 [(0, .ref (u r0)), (1, .int x1), (2, .int x2), (3, .int x3)] → c_X10_climb vl K k 2 x1 x2 x3 r0 t0 z = some z1 → W p l e ({ frames := 5, cells := 0, slots := 0, locals := 125 } : Room) s m args below meth c H locs 0 0 QQ (F0 m 50 ls [.int t0])) ∧ (∀ (x1 : Int32) (x2 : Int32) (x3 : Int32) (r0 : Nat) (t0 : Int32) (z : ow_MS) (H : Heap) (locs : List Loc) (ls : Array Slot), cw_X10 r0 → uw_M D vwCl (cX vl) q (tw_A (cX vl) u) s.heap u z H locs → lv_has ls 4 [(0, .ref (u r0)), (1, .int x1), (2, .int x2)] → c_X10_climb vl K k 3 x1 x2 x3 r0 t0 z = some z1 → W p l e ({ frames := 5, cells := 0, slots := 0, locals := 125 } : Room) s m args below meth c H locs 0 0 QQ (F0 m 57 ls [])) ∧ (∀ (x1 : Int32) (x2 : Int32) (x3 : Int32) (r0 : Nat) (t0 : Int32) (z : ow_MS) (H : Heap) (locs : List Loc) (ls : Array Slot), cw_X10 r0 → uw_M D vwCl (cX vl) q (tw_A (cX vl) u) s.heap u z H locs → lv_has ls 4 [(0, .ref (u r0)), (1, .int x1), (2, .int x2)] → c_X10_climb vl K k 4 x1 x2 x3 r0 t0 z = some z1 → W p l e ({ frames := 5, cells := 0, slots := 0, locals := 125 } : Room) s m args below meth c H locs 0 0 QQ (F0 m 61 ls [])) ∧ (∀ (x1 : Int32) (x2 : Int32) (x3 : Int32) (r0 : Nat) (t0 : Int32) (z : ow_MS) (H : Heap) (locs : List Loc) (ls : Array Slot), cw_X10 r0 → uw_M D vwCl (cX vl) q (tw_A (cX vl) u) s.heap u z H locs → lv_has ls 4 [(0, .ref (u r0)), (1, .int x1), (2, .int x2), (3, .int x3)] → c_X10_climb vl K k 5 x1 x2 x3 r0 t0 z = some z1 → W p l e ({ frames := 5, cells := 0, slots := 0, locals := 125 } : Room) s m args below meth c H locs 0 0 QQ (F0 m 123 ls [.int t0])) := by
    intro k
    induction k with
    | zero => exact ⟨fun _ _ _ _ _ _ _ _ _ _ _ _ hq => cw_no hq, fun _ _ _ _ _ _ _ _ _ _ _ _ hq => cw_no hq, fun _ _ _ _ _ _ _ _ _ _ _ _ hq => cw_no hq, fun _ _ _ _ _ _ _ _ _ _ _ _ hq => cw_no hq, fun _ _ _ _ _ _ _ _ _ _ _ _ hq => cw_no hq, fun _ _ _ _ _ _ _ _ _ _ _ _ hq => cw_no hq⟩
    | succ k ih =>
      obtain ⟨ih_0, ih_1, ih_2, ih_3, ih_4, ih_5⟩ := ih
      refine ⟨?_, ?_, ?_, ?_, ?_, ?_⟩
      · intro x1 x2 x3 r0 t0 z H locs ls hr0 hM hl hq
        have hq : cm_X10_climb_0 vl K (c_X10_climb vl K k) x1 x2 x3 r0 t0 z = some z1 := hq
        unfold cm_X10_climb_0 at hq
        refine lv_iconst (v := 0) hx hb dcX10_climb_0 (by decide) ?_
        refine lv_istore_n (lv' := [(1, .int 0), (0, .ref (u r0))]) hx hb dcX10_climb_1 rfl hl (by decide) rfl (fun ls hl => ?_)
        refine lv_iconst (v := 0) hx hb dcX10_climb_2 (by decide) ?_
        refine lv_istore_n (lv' := [(2, .int 0), (1, .int 0), (0, .ref (u r0))]) hx hb dcX10_climb_3 rfl hl (by decide) rfl (fun ls hl => ?_)
        exact ih_1 0 0 0 r0 0 z H locs ls hr0 hM (lv_sub hl [2, 1, 0] rfl) hq
      · intro x1 x2 x3 r0 t0 z H locs ls hr0 hM hl hq
        have hq : cm_X10_climb_1 vl K (c_X10_climb vl K k) x1 x2 x3 r0 t0 z = some z1 := hq
        unfold cm_X10_climb_1 at hq
        refine lv_iload_n hx hb dcX10_climb_4 rfl (lv_at hl 2 rfl) ?_
        refine lv_sipush (v := 2000) hx hb dcX10_climb_5 (by decide) ?_
        refine lv_icmp_ge (tgt := 57) hx hb dcX10_climb_8 (by decide) (fun hc => ?_) (fun hc => ?_)
        · have hq := tw_it hq hc
          exact ih_3 x1 x2 0 r0 0 z H locs ls hr0 hM (lv_sub hl [0, 1, 2] rfl) hq
        · have hq := tw_if hq hc
          refine lv_iload_n hx hb dcX10_climb_11 rfl (lv_at hl 1 rfl) ?_
          refine lv_bipush (v := 30) hx hb dcX10_climb_12 (by decide) ?_
          refine lv_icmp_ge (tgt := 57) hx hb dcX10_climb_14 (by decide) (fun hc => ?_) (fun hc => ?_)
          · have hq := tw_it hq hc
            exact ih_3 x1 x2 0 r0 0 z H locs ls hr0 hM (lv_sub hl [0, 1, 2] rfl) hq
          · have hq := tw_if hq hc
            refine lv_aload_n hx hb dcX10_climb_17 rfl (lv_at hl 0 rfl) ?_
            refine vgX10_21 hx hb hT hown hK hM hr0 dcX10_climb_18 ?_
            refine vgX10_75 hx hb hT hown hK hM (cs_X10_6 hr0) hq dcX10_climb_21 (fun v1 hq => ?_)
            refine lv_istore_n (lv' := [(3, .int v1), (0, .ref (u r0)), (1, .int x1), (2, .int x2)]) hx hb dcX10_climb_24 rfl hl (by decide) rfl (fun ls hl => ?_)
            refine lv_aload_n hx hb dcX10_climb_25 rfl (lv_at hl 1 rfl) ?_
            refine vgX10_21 hx hb hT hown hK hM hr0 dcX10_climb_26 ?_
            obtain ⟨z2, hcq, hq⟩ := tw_cl0 hq
            refine uw_calv hU hM (va_runV (As := []) (rest := []) ⟨hx, hb, hml, hown, hts⟩ (kc_X5_cycle l D q vl u hU.1 K (r0 + 1000) (cs_X10_6 hr0) z z2 hcq) (cwV 0 hts (tw_gV wC_good xq_721 xq_722 xq_723 xq_403 xq_456) rfl rfl rfl cdd_X5_cycle ⟨(Nat.le_of_ble_eq_true rfl), (Nat.le_of_ble_eq_true rfl)⟩) (cw_preV hK hM (co_X5 (cs_X10_6 hr0)) rfl) rfl rfl hl.1 rfl (lv_room (Nat.le_of_ble_eq_true rfl)) dcX10_climb_29 ⟨(Nat.le_of_ble_eq_true rfl), (Nat.le_of_ble_eq_true rfl)⟩) (fun H locs hM => ?_)
            refine lv_aload_n hx hb dcX10_climb_32 rfl (lv_at hl 1 rfl) ?_
            refine vgX10_21 hx hb hT hown hK hM hr0 dcX10_climb_33 ?_
            refine vgX10_75 hx hb hT hown hK hM (cs_X10_6 hr0) hq dcX10_climb_36 (fun v3 hq => ?_)
            refine lv_iload_n hx hb dcX10_climb_39 rfl (lv_at hl 0 rfl) ?_
            refine lv_icmp_le (tgt := 47) hx hb dcX10_climb_40 (by decide) (fun hc => ?_) (fun hc => ?_)
            · have hq := tw_it hq hc
              refine lv_iload_n hx hb dcX10_climb_47 rfl (lv_at hl 2 rfl) ?_
              refine lv_iconst (v := 1) hx hb dcX10_climb_48 (by decide) ?_
              refine lv_iadd hx hb dcX10_climb_49 ?_
              exact ih_2 x1 x2 v1 r0 (x1 + 1) z2 H locs ls hr0 hM (lv_sub hl [1, 2, 3, 0] rfl) hq
            · have hq := tw_if hq hc
              refine lv_iconst (v := 0) hx hb dcX10_climb_43 (by decide) ?_
              refine lv_goto (tgt := 50) hx hb dcX10_climb_44 (by decide) ?_
              exact ih_2 x1 x2 v1 r0 0 z2 H locs ls hr0 hM (lv_sub hl [1, 2, 3, 0] rfl) hq
      · intro x1 x2 x3 r0 t0 z H locs ls hr0 hM hl hq
        have hq : cm_X10_climb_2 vl K (c_X10_climb vl K k) x1 x2 x3 r0 t0 z = some z1 := hq
        unfold cm_X10_climb_2 at hq
        refine lv_istore_n (lv' := [(1, .int t0), (0, .ref (u r0)), (2, .int x2), (3, .int x3)]) hx hb dcX10_climb_50 rfl hl (by decide) rfl (fun ls hl => ?_)
        refine lv_iinc (v := (x2 + 1)) (lv' := [(2, .int (x2 + 1)), (1, .int t0), (0, .ref (u r0)), (3, .int x3)]) hx hb dcX10_climb_51 hl (k := 2) rfl rfl (by decide) rfl (fun ls hl => ?_)
        refine lv_goto (tgt := 4) hx hb dcX10_climb_54 (by decide) ?_
        exact ih_1 t0 (x2 + 1) 0 r0 0 z H locs ls hr0 hM (lv_sub hl [2, 1, 0] rfl) hq
      · intro x1 x2 x3 r0 t0 z H locs ls hr0 hM hl hq
        have hq : cm_X10_climb_3 vl K (c_X10_climb vl K k) x1 x2 x3 r0 t0 z = some z1 := hq
        unfold cm_X10_climb_3 at hq
        refine lv_iconst (v := 0) hx hb dcX10_climb_57 (by decide) ?_
        refine lv_istore_n (lv' := [(1, .int 0), (0, .ref (u r0)), (2, .int x2)]) hx hb dcX10_climb_58 rfl hl (by decide) rfl (fun ls hl => ?_)
        refine lv_iconst (v := 0) hx hb dcX10_climb_59 (by decide) ?_
        refine lv_istore_n (lv' := [(2, .int 0), (1, .int 0), (0, .ref (u r0))]) hx hb dcX10_climb_60 rfl hl (by decide) rfl (fun ls hl => ?_)
        exact ih_4 0 0 0 r0 0 z H locs ls hr0 hM (lv_sub hl [2, 1, 0] rfl) hq
      · intro x1 x2 x3 r0 t0 z H locs ls hr0 hM hl hq
        have hq : cm_X10_climb_4 vl K (c_X10_climb vl K k) x1 x2 x3 r0 t0 z = some z1 := hq
        unfold cm_X10_climb_4 at hq
        refine lv_iload_n hx hb dcX10_climb_61 rfl (lv_at hl 2 rfl) ?_
        refine lv_sipush (v := 2000) hx hb dcX10_climb_62 (by decide) ?_
        refine lv_icmp_ge (tgt := 130) hx hb dcX10_climb_65 (by decide) (fun hc => ?_) (fun hc => ?_)
        · have hq := tw_it hq hc
          exact cw_vret hx hb hr hlocks hM hq hQQ dcX10_climb_130
        · have hq := tw_if hq hc
          refine lv_iload_n hx hb dcX10_climb_68 rfl (lv_at hl 1 rfl) ?_
          refine lv_bipush (v := 30) hx hb dcX10_climb_69 (by decide) ?_
          refine lv_icmp_ge (tgt := 130) hx hb dcX10_climb_71 (by decide) (fun hc => ?_) (fun hc => ?_)
          · have hq := tw_it hq hc
            exact cw_vret hx hb hr hlocks hM hq hQQ dcX10_climb_130
          · have hq := tw_if hq hc
            refine lv_aload_n hx hb dcX10_climb_74 rfl (lv_at hl 0 rfl) ?_
            refine vgX10_21 hx hb hT hown hK hM hr0 dcX10_climb_75 ?_
            refine vgX10_75 hx hb hT hown hK hM (cs_X10_6 hr0) hq dcX10_climb_78 (fun v4 hq => ?_)
            refine lv_aload_n hx hb dcX10_climb_81 rfl (lv_at hl 0 rfl) ?_
            refine vgX10_21 hx hb hT hown hK hM hr0 dcX10_climb_82 ?_
            refine vgX10_81 hx hb hT hown hK hM (cs_X10_6 hr0) hq dcX10_climb_85 (fun v5 hq => ?_)
            refine lv_iadd hx hb dcX10_climb_88 ?_
            refine lv_istore_n (lv' := [(3, .int (v4 + v5)), (0, .ref (u r0)), (1, .int x1), (2, .int x2)]) hx hb dcX10_climb_89 rfl hl (by decide) rfl (fun ls hl => ?_)
            refine lv_aload_n hx hb dcX10_climb_90 rfl (lv_at hl 1 rfl) ?_
            refine vgX10_21 hx hb hT hown hK hM hr0 dcX10_climb_91 ?_
            obtain ⟨z6, hcq, hq⟩ := tw_cl0 hq
            refine uw_calv hU hM (va_runV (As := []) (rest := []) ⟨hx, hb, hml, hown, hts⟩ (kc_X5_decycle l D q vl u hU.1 K (r0 + 1000) (cs_X10_6 hr0) z z6 hcq) (cwV 0 hts (tw_gV wC_good xq_724 xq_725 xq_726 xq_403 xq_460) rfl rfl rfl cdd_X5_decycle ⟨(Nat.le_of_ble_eq_true rfl), (Nat.le_of_ble_eq_true rfl)⟩) (cw_preV hK hM (co_X5 (cs_X10_6 hr0)) rfl) rfl rfl hl.1 rfl (lv_room (Nat.le_of_ble_eq_true rfl)) dcX10_climb_94 ⟨(Nat.le_of_ble_eq_true rfl), (Nat.le_of_ble_eq_true rfl)⟩) (fun H locs hM => ?_)
            refine lv_aload_n hx hb dcX10_climb_97 rfl (lv_at hl 1 rfl) ?_
            refine vgX10_21 hx hb hT hown hK hM hr0 dcX10_climb_98 ?_
            refine vgX10_75 hx hb hT hown hK hM (cs_X10_6 hr0) hq dcX10_climb_101 (fun v7 hq => ?_)
            refine lv_aload_n hx hb dcX10_climb_104 rfl (lv_at hl 1 rfl) ?_
            refine vgX10_21 hx hb hT hown hK hM hr0 dcX10_climb_105 ?_
            refine vgX10_81 hx hb hT hown hK hM (cs_X10_6 hr0) hq dcX10_climb_108 (fun v8 hq => ?_)
            refine lv_iadd hx hb dcX10_climb_111 ?_
            refine lv_iload_n hx hb dcX10_climb_112 rfl (lv_at hl 0 rfl) ?_
            refine lv_icmp_ge (tgt := 120) hx hb dcX10_climb_113 (by decide) (fun hc => ?_) (fun hc => ?_)
            · have hq := tw_it hq hc
              refine lv_iload_n hx hb dcX10_climb_120 rfl (lv_at hl 2 rfl) ?_
              refine lv_iconst (v := 1) hx hb dcX10_climb_121 (by decide) ?_
              refine lv_iadd hx hb dcX10_climb_122 ?_
              exact ih_5 x1 x2 (v4 + v5) r0 (x1 + 1) z6 H locs ls hr0 hM (lv_sub hl [1, 2, 3, 0] rfl) hq
            · have hq := tw_if hq hc
              refine lv_iconst (v := 0) hx hb dcX10_climb_116 (by decide) ?_
              refine lv_goto (tgt := 123) hx hb dcX10_climb_117 (by decide) ?_
              exact ih_5 x1 x2 (v4 + v5) r0 0 z6 H locs ls hr0 hM (lv_sub hl [1, 2, 3, 0] rfl) hq
      · intro x1 x2 x3 r0 t0 z H locs ls hr0 hM hl hq
        have hq : cm_X10_climb_5 vl K (c_X10_climb vl K k) x1 x2 x3 r0 t0 z = some z1 := hq
        unfold cm_X10_climb_5 at hq
        refine lv_istore_n (lv' := [(1, .int t0), (0, .ref (u r0)), (2, .int x2), (3, .int x3)]) hx hb dcX10_climb_123 rfl hl (by decide) rfl (fun ls hl => ?_)
        refine lv_iinc (v := (x2 + 1)) (lv' := [(2, .int (x2 + 1)), (1, .int t0), (0, .ref (u r0)), (3, .int x3)]) hx hb dcX10_climb_124 hl (k := 2) rfl rfl (by decide) rfl (fun ls hl => ?_)
        refine lv_goto (tgt := 61) hx hb dcX10_climb_127 (by decide) ?_
        exact ih_4 t0 (x2 + 1) 0 r0 0 z H locs ls hr0 hM (lv_sub hl [2, 1, 0] rfl) hq
  exact (key K).1 0 0 0 r0 0 z s.heap [] ls hr0 hM (lv_sub hl [0] rfl) hq
theorem dcX10_goesOn_0 : decode cX10_goesOn 0 = .ok (.iconst 0, 1) := by decide +kernel
theorem dcX10_goesOn_1 : decode cX10_goesOn 1 = .ok (.istore_n 3, 1) := by decide +kernel
theorem dcX10_goesOn_2 : decode cX10_goesOn 2 = .ok (.iload_n 3, 1) := by decide +kernel
theorem dcX10_goesOn_3 : decode cX10_goesOn 3 = .ok (.iload_n 2, 1) := by decide +kernel
theorem dcX10_goesOn_4 : decode cX10_goesOn 4 = .ok (.if_icmp .ge 29, 3) := by decide +kernel
theorem dcX10_goesOn_7 : decode cX10_goesOn 7 = .ok (.aload_n 0, 1) := by decide +kernel
theorem dcX10_goesOn_8 : decode cX10_goesOn 8 = .ok (.getfield 31, 3) := by decide +kernel
theorem dcX10_goesOn_11 : decode cX10_goesOn 11 = .ok (.iload_n 3, 1) := by decide +kernel
theorem dcX10_goesOn_12 : decode cX10_goesOn 12 = .ok (.iaload, 1) := by decide +kernel
theorem dcX10_goesOn_13 : decode cX10_goesOn 13 = .ok (.aload_n 0, 1) := by decide +kernel
theorem dcX10_goesOn_14 : decode cX10_goesOn 14 = .ok (.getfield 28, 3) := by decide +kernel
theorem dcX10_goesOn_17 : decode cX10_goesOn 17 = .ok (.iload_n 1, 1) := by decide +kernel
theorem dcX10_goesOn_18 : decode cX10_goesOn 18 = .ok (.iaload, 1) := by decide +kernel
theorem dcX10_goesOn_19 : decode cX10_goesOn 19 = .ok (.iconst (-1), 1) := by decide +kernel
theorem dcX10_goesOn_20 : decode cX10_goesOn 20 = .ok (.ixor, 1) := by decide +kernel
theorem dcX10_goesOn_21 : decode cX10_goesOn 21 = .ok (.iand, 1) := by decide +kernel
theorem dcX10_goesOn_22 : decode cX10_goesOn 22 = .ok (.ifCond .ne 5, 3) := by decide +kernel
theorem dcX10_goesOn_25 : decode cX10_goesOn 25 = .ok (.iconst 1, 1) := by decide +kernel
theorem dcX10_goesOn_26 : decode cX10_goesOn 26 = .ok (.ireturn, 1) := by decide +kernel
theorem dcX10_goesOn_27 : decode cX10_goesOn 27 = .ok (.iinc 3 1, 3) := by decide +kernel
theorem dcX10_goesOn_30 : decode cX10_goesOn 30 = .ok (.goto (-28), 3) := by decide +kernel
theorem dcX10_goesOn_33 : decode cX10_goesOn 33 = .ok (.iconst 0, 1) := by decide +kernel
theorem dcX10_goesOn_34 : decode cX10_goesOn 34 = .ok (.ireturn, 1) := by decide +kernel
def cm_X10_goesOn_0 (vl : Nat → Nat) (K : Nat) (go : Nat → Int32 → Int32 → Int32 → Nat → ow_MS → Option (Int32 × ow_MS)) (x1 : Int32) (x2 : Int32) (x3 : Int32) (r0 : Nat) (z : ow_MS) : Option (Int32 × ow_MS) :=
 go 1 x1 x2 0 r0 z
def cm_X10_goesOn_1 (vl : Nat → Nat) (K : Nat) (go : Nat → Int32 → Int32 → Int32 → Nat → ow_MS → Option (Int32 × ow_MS)) (x1 : Int32) (x2 : Int32) (x3 : Int32) (r0 : Nat) (z : ow_MS) : Option (Int32 × ow_MS) :=
 (if x2 ≤ x3 then okZ 0 (some (0, z))
 else crI (cX vl) z (r0 + 10) x3 fun v1 => crI (cX vl) z (r0 + 9) x1 fun v2 => (if (v1 &&& (v2 ^^^ (-1))) = 0 then okZ 1 (some (1, z))
 else go 1 x1 x2 (x3 + 1) r0 z))
def cb_X10_goesOn (vl : Nat → Nat) (K : Nat) (go : Nat → Int32 → Int32 → Int32 → Nat → ow_MS → Option (Int32 × ow_MS)) (L : Nat) (x1 : Int32) (x2 : Int32) (x3 : Int32) (r0 : Nat) (z : ow_MS) : Option (Int32 × ow_MS) := match L with
  | 0 => cm_X10_goesOn_0 vl K go x1 x2 x3 r0 z
  | 1 => cm_X10_goesOn_1 vl K go x1 x2 x3 r0 z
  | _ => none
def c_X10_goesOn (vl : Nat → Nat) (K : Nat) : Nat → Nat → Int32 → Int32 → Int32 → Nat → ow_MS → Option (Int32 × ow_MS)
  | 0 => fun _ _ _ _ _ _ => none
  | k + 1 => cb_X10_goesOn vl K (c_X10_goesOn vl K k)
def ce_X10_goesOn (vl : Nat → Nat) (K : Nat) (r0 : Nat) (x1 : Int32) (x2 : Int32) (z : ow_MS) : Option (Int32 × ow_MS) := c_X10_goesOn vl K K 0 x1 x2 0 r0 z
abbrev wc_X10_goesOn : List Cond := .code yX10_goesOn cX10_goesOn 4 (some .boolean) :: wC
theorem cdd_X10_goesOn : yX10_goesOn.cls = RX10 ∧ yX10_goesOn.cls ≠ "java/lang/invoke/MethodHandle" ∧ yX10_goesOn.cls ≠ "java/lang/invoke/VarHandle" ∧ (parseMethodDescriptor yX10_goesOn.desc).map (fun d => d.parameters.length) = some 2 := by decide +kernel
set_option maxHeartbeats 4000000 in
set_option maxRecDepth 100000 in
theorem kc_X10_goesOn (l : Launch) (D : va_G) (q : Nat → ClassId) (vl u : Nat → Nat) (hU0 : tw_inj (cX vl) u) (K : Nat) (r0 : Nat) (x1 : Int32) (x2 : Int32) (hr0 : cw_X10 r0) (z z1 : ow_MS) (r : Int32) (hq : ce_X10_goesOn vl K r0 x1 x2 z = some (r, z1)) : Met l yX10_goesOn wc_X10_goesOn ({ frames := 0, cells := 0, slots := 0, locals := 0 } : Room) (va_Pc [.ref (u r0), .int x1, .int x2] (cw_pre D q vl u z)) (va_Qi (fun x (_ : Unit) => x = r) (fun _ t => va_P D vwCl (uw (cX vl) q u z1) t.heap) (tw_A (cX vl) u)) 0 0 (tw_A (cX vl) u) := by
  refine Met.ofW (cc := cX10_goesOn) (maxL := 4) (ret := (some .boolean)) (by decide) rfl ?_
  intro p e s m args below meth c s₁ B hml hv
  obtain ⟨rfl, hP, hK⟩ := hv
  have hx := B.exec
  have hb := B.bytes
  have hr := B.returns
  have hts := atoms_spec (ws := wc_X10_goesOn) B.pre
  have hT : ∀ w ∈ wC, w.before ([.ref (u r0), .int x1, .int x2] : List Value).toArray s = true := fun w h => hts w (List.mem_cons_of_mem _ h)
  have hown : s.vm.findClass RX10 = some m.cls := findClass_of_methodNamed B.named
  have hlocks := B.notSynchronized
  have hU : uw_inj (cX vl) u (tw_A (cX vl) u) := ⟨hU0, fun h hh => ⟨h, hh, rfl⟩⟩
  have hM : uw_M D vwCl (cX vl) q (tw_A (cX vl) u) s.heap u z s.heap [] := ⟨hP, va_S.rf⟩
  have hl := lv_entry ([.ref (u r0), .int x1, .int x2]) (n := 4) (Nat.le_of_ble_eq_true rfl)
  rw [lg_entry_eq]
  generalize (lg_sl ([.ref (u r0), .int x1, .int x2]) ++ List.replicate (4 - (lg_sl ([.ref (u r0), .int x1, .int x2])).length) Slot.unset).toArray = ls at hl ⊢
  have hl : lv_has ls 4 [(0, .ref (u r0)), (1, .int x1), (2, .int x2)] := hl
  refine ow_named (fun QQ hQQ => ?_)
  generalize ([.ref (u r0), .int x1, .int x2] : List Value).toArray = args at hts hT hQQ ⊢
  have key : ∀ k : Nat, (∀ (x1 : Int32) (x2 : Int32) (x3 : Int32) (r0 : Nat) (z : ow_MS) (H : Heap) (locs : List Loc) (ls : Array Slot), cw_X10 r0 → uw_M D vwCl (cX vl) q (tw_A (cX vl) u) s.heap u z H locs → lv_has ls 4 [(0, .ref (u r0)), (1, .int x1), (2, .int x2)] → c_X10_goesOn vl K k 0 x1 x2 x3 r0 z = some (r, z1) → W p l e ({ frames := 0, cells := 0, slots := 0, locals := 0 } : Room) s m args below meth c H locs 0 0 QQ (F0 m 0 ls [])) ∧ (∀ (x1 : Int32) (x2 : Int32) (x3 : Int32) (r0 : Nat) (z : ow_MS) (H : Heap) (locs : List Loc) (ls : Array Slot), cw_X10 r0 → uw_M D vwCl (cX vl) q (tw_A (cX vl) u) s.heap u z H locs → lv_has ls 4 [(0, .ref (u r0)), (1, .int x1), (2, .int x2), (3, .int x3)] → c_X10_goesOn vl K k 1 x1 x2 x3 r0 z = some (r, z1) → W p l e ({ frames := 0, cells := 0, slots := 0, locals := 0 } : Room) s m args below meth c H locs 0 0 QQ (F0 m 2 ls [])) := by
    intro k
    induction k with
    | zero => exact ⟨fun _ _ _ _ _ _ _ _ _ _ _ hq => cw_no hq, fun _ _ _ _ _ _ _ _ _ _ _ hq => cw_no hq⟩
    | succ k ih =>
      obtain ⟨ih_0, ih_1⟩ := ih
      refine ⟨?_, ?_⟩
      · intro x1 x2 x3 r0 z H locs ls hr0 hM hl hq
        have hq : cm_X10_goesOn_0 vl K (c_X10_goesOn vl K k) x1 x2 x3 r0 z = some (r, z1) := hq
        unfold cm_X10_goesOn_0 at hq
        refine lv_iconst (v := 0) hx hb dcX10_goesOn_0 (by decide) ?_
        refine lv_istore_n (lv' := [(3, .int 0), (0, .ref (u r0)), (1, .int x1), (2, .int x2)]) hx hb dcX10_goesOn_1 rfl hl (by decide) rfl (fun ls hl => ?_)
        exact ih_1 x1 x2 0 r0 z H locs ls hr0 hM (lv_sub hl [1, 2, 3, 0] rfl) hq
      · intro x1 x2 x3 r0 z H locs ls hr0 hM hl hq
        have hq : cm_X10_goesOn_1 vl K (c_X10_goesOn vl K k) x1 x2 x3 r0 z = some (r, z1) := hq
        unfold cm_X10_goesOn_1 at hq
        refine lv_iload_n hx hb dcX10_goesOn_2 rfl (lv_at hl 3 rfl) ?_
        refine lv_iload_n hx hb dcX10_goesOn_3 rfl (lv_at hl 2 rfl) ?_
        refine lv_icmp_ge (tgt := 33) hx hb dcX10_goesOn_4 (by decide) (fun hc => ?_) (fun hc => ?_)
        · have hq := tw_it hq hc
          refine lv_iconst (v := 0) hx hb dcX10_goesOn_33 (by decide) ?_
          obtain ⟨hz, hq⟩ := tw_gZ hq
          exact cw_zret hx hb hr hlocks hM hz hq hQQ dcX10_goesOn_34
        · have hq := tw_if hq hc
          refine lv_aload_n hx hb dcX10_goesOn_7 rfl (lv_at hl 0 rfl) ?_
          refine vgX10_31 hx hb hT hown hK hM hr0 dcX10_goesOn_8 ?_
          refine lv_iload_n hx hb dcX10_goesOn_11 rfl (lv_at hl 3 rfl) ?_
          refine uw_iald cX_ok hx hb hK hM (cr_X10_9 hr0) hq dcX10_goesOn_12 (fun v1 hq => ?_)
          refine lv_aload_n hx hb dcX10_goesOn_13 rfl (lv_at hl 0 rfl) ?_
          refine vgX10_28 hx hb hT hown hK hM hr0 dcX10_goesOn_14 ?_
          refine lv_iload_n hx hb dcX10_goesOn_17 rfl (lv_at hl 1 rfl) ?_
          refine uw_iald cX_ok hx hb hK hM (cr_X10_8 hr0) hq dcX10_goesOn_18 (fun v2 hq => ?_)
          refine lv_iconst (v := (-1)) hx hb dcX10_goesOn_19 (by decide) ?_
          refine lv_ixor hx hb dcX10_goesOn_20 ?_
          refine lv_iand hx hb dcX10_goesOn_21 ?_
          refine lv_if_ne (tgt := 27) hx hb dcX10_goesOn_22 (by decide) (fun hc => ?_) (fun hc => ?_)
          · have hq := tw_if hq hc
            refine lv_iinc (v := (x3 + 1)) (lv' := [(3, .int (x3 + 1)), (0, .ref (u r0)), (1, .int x1), (2, .int x2)]) hx hb dcX10_goesOn_27 hl (k := 3) rfl rfl (by decide) rfl (fun ls hl => ?_)
            refine lv_goto (tgt := 2) hx hb dcX10_goesOn_30 (by decide) ?_
            exact ih_1 x1 x2 (x3 + 1) r0 z H locs ls hr0 hM (lv_sub hl [1, 2, 3, 0] rfl) hq
          · have hq := tw_it hq hc
            refine lv_iconst (v := 1) hx hb dcX10_goesOn_25 (by decide) ?_
            obtain ⟨hz, hq⟩ := tw_gZ hq
            exact cw_zret hx hb hr hlocks hM hz hq hQQ dcX10_goesOn_26
  exact (key K).1 x1 x2 0 r0 z s.heap [] ls hr0 hM (lv_sub hl [0, 1, 2] rfl) hq
theorem dcX10_gather_0 : decode cX10_gather 0 = .ok (.iconst 0, 1) := dw_at cX10_gather_k0 (p := 0) rfl (by decide +kernel)
theorem dcX10_gather_1 : decode cX10_gather 1 = .ok (.istore_n 1, 1) := dw_at cX10_gather_k0 (p := 1) rfl (by decide +kernel)
theorem dcX10_gather_2 : decode cX10_gather 2 = .ok (.iload_n 1, 1) := dw_at cX10_gather_k0 (p := 2) rfl (by decide +kernel)
theorem dcX10_gather_3 : decode cX10_gather 3 = .ok (.aload_n 0, 1) := dw_at cX10_gather_k0 (p := 3) rfl (by decide +kernel)
theorem dcX10_gather_4 : decode cX10_gather 4 = .ok (.getfield 56, 3) := dw_at cX10_gather_k0 (p := 4) rfl (by decide +kernel)
theorem dcX10_gather_7 : decode cX10_gather 7 = .ok (.if_icmp .ge 208, 3) := dw_at cX10_gather_k0 (p := 7) rfl (by decide +kernel)
theorem dcX10_gather_10 : decode cX10_gather 10 = .ok (.aload_n 0, 1) := dw_at cX10_gather_k0 (p := 10) rfl (by decide +kernel)
theorem dcX10_gather_11 : decode cX10_gather 11 = .ok (.getfield 56, 3) := dw_at cX10_gather_k0 (p := 11) rfl (by decide +kernel)
theorem dcX10_gather_14 : decode cX10_gather 14 = .ok (.sipush 200, 3) := dw_at cX10_gather_k0 (p := 14) rfl (by decide +kernel)
theorem dcX10_gather_17 : decode cX10_gather 17 = .ok (.if_icmp .gt 198, 3) := dw_at cX10_gather_k0 (p := 17) rfl (by decide +kernel)
theorem dcX10_gather_20 : decode cX10_gather 20 = .ok (.iconst 0, 1) := dw_at cX10_gather_k0 (p := 20) rfl (by decide +kernel)
theorem dcX10_gather_21 : decode cX10_gather 21 = .ok (.istore_n 2, 1) := dw_at cX10_gather_k0 (p := 21) rfl (by decide +kernel)
theorem dcX10_gather_22 : decode cX10_gather 22 = .ok (.iconst 0, 1) := dw_at cX10_gather_k0 (p := 22) rfl (by decide +kernel)
theorem dcX10_gather_23 : decode cX10_gather 23 = .ok (.istore_n 3, 1) := dw_at cX10_gather_k0 (p := 23) rfl (by decide +kernel)
theorem dcX10_gather_24 : decode cX10_gather 24 = .ok (.iload_n 3, 1) := dw_at cX10_gather_k1 (p := 0) rfl (by decide +kernel)
theorem dcX10_gather_25 : decode cX10_gather 25 = .ok (.aload_n 0, 1) := dw_at cX10_gather_k1 (p := 1) rfl (by decide +kernel)
theorem dcX10_gather_26 : decode cX10_gather 26 = .ok (.getfield 59, 3) := dw_at cX10_gather_k1 (p := 2) rfl (by decide +kernel)
theorem dcX10_gather_29 : decode cX10_gather 29 = .ok (.if_icmp .ge 180, 3) := dw_at cX10_gather_k1 (p := 5) rfl (by decide +kernel)
theorem dcX10_gather_32 : decode cX10_gather 32 = .ok (.aload_n 0, 1) := dw_at cX10_gather_k1 (p := 8) rfl (by decide +kernel)
theorem dcX10_gather_33 : decode cX10_gather 33 = .ok (.getfield 56, 3) := dw_at cX10_gather_k1 (p := 9) rfl (by decide +kernel)
theorem dcX10_gather_36 : decode cX10_gather 36 = .ok (.sipush 200, 3) := dw_at cX10_gather_k1 (p := 12) rfl (by decide +kernel)
theorem dcX10_gather_39 : decode cX10_gather 39 = .ok (.if_icmp .gt 170, 3) := dw_at cX10_gather_k1 (p := 15) rfl (by decide +kernel)
theorem dcX10_gather_42 : decode cX10_gather 42 = .ok (.aload_n 0, 1) := dw_at cX10_gather_k1 (p := 18) rfl (by decide +kernel)
theorem dcX10_gather_43 : decode cX10_gather 43 = .ok (.iload_n 3, 1) := dw_at cX10_gather_k1 (p := 19) rfl (by decide +kernel)
theorem dcX10_gather_44 : decode cX10_gather 44 = .ok (.iload_n 2, 1) := dw_at cX10_gather_k1 (p := 20) rfl (by decide +kernel)
theorem dcX10_gather_45 : decode cX10_gather 45 = .ok (.invokevirtual 92, 3) := dw_at cX10_gather_k1 (p := 21) rfl (by decide +kernel)
theorem dcX10_gather_48 : decode cX10_gather 48 = .ok (.ifCond .eq 6, 3) := dw_at cX10_gather_k2 (p := 0) rfl (by decide +kernel)
theorem dcX10_gather_51 : decode cX10_gather 51 = .ok (.goto 152, 3) := dw_at cX10_gather_k2 (p := 3) rfl (by decide +kernel)
theorem dcX10_gather_54 : decode cX10_gather 54 = .ok (.aload_n 0, 1) := dw_at cX10_gather_k2 (p := 6) rfl (by decide +kernel)
theorem dcX10_gather_55 : decode cX10_gather 55 = .ok (.getfield 21, 3) := dw_at cX10_gather_k2 (p := 7) rfl (by decide +kernel)
theorem dcX10_gather_58 : decode cX10_gather 58 = .ok (.aload_n 0, 1) := dw_at cX10_gather_k2 (p := 10) rfl (by decide +kernel)
theorem dcX10_gather_59 : decode cX10_gather 59 = .ok (.getfield 87, 3) := dw_at cX10_gather_k2 (p := 11) rfl (by decide +kernel)
theorem dcX10_gather_62 : decode cX10_gather 62 = .ok (.putfield 75, 3) := dw_at cX10_gather_k2 (p := 14) rfl (by decide +kernel)
theorem dcX10_gather_65 : decode cX10_gather 65 = .ok (.aload_n 0, 1) := dw_at cX10_gather_k2 (p := 17) rfl (by decide +kernel)
theorem dcX10_gather_66 : decode cX10_gather 66 = .ok (.getfield 21, 3) := dw_at cX10_gather_k2 (p := 18) rfl (by decide +kernel)
theorem dcX10_gather_69 : decode cX10_gather 69 = .ok (.aload_n 0, 1) := dw_at cX10_gather_k2 (p := 21) rfl (by decide +kernel)
theorem dcX10_gather_70 : decode cX10_gather 70 = .ok (.getfield 88, 3) := dw_at cX10_gather_k2 (p := 22) rfl (by decide +kernel)
theorem dcX10_gather_73 : decode cX10_gather 73 = .ok (.putfield 81, 3) := dw_at cX10_gather_k3 (p := 0) rfl (by decide +kernel)
theorem dcX10_gather_76 : decode cX10_gather 76 = .ok (.aload_n 0, 1) := dw_at cX10_gather_k3 (p := 3) rfl (by decide +kernel)
theorem dcX10_gather_77 : decode cX10_gather 77 = .ok (.getfield 11, 3) := dw_at cX10_gather_k3 (p := 4) rfl (by decide +kernel)
theorem dcX10_gather_80 : decode cX10_gather 80 = .ok (.iload_n 1, 1) := dw_at cX10_gather_k3 (p := 7) rfl (by decide +kernel)
theorem dcX10_gather_81 : decode cX10_gather 81 = .ok (.bipush 20, 2) := dw_at cX10_gather_k3 (p := 8) rfl (by decide +kernel)
theorem dcX10_gather_83 : decode cX10_gather 83 = .ok (.imul, 1) := dw_at cX10_gather_k3 (p := 10) rfl (by decide +kernel)
theorem dcX10_gather_84 : decode cX10_gather 84 = .ok (.aload_n 0, 1) := dw_at cX10_gather_k3 (p := 11) rfl (by decide +kernel)
theorem dcX10_gather_85 : decode cX10_gather 85 = .ok (.getfield 21, 3) := dw_at cX10_gather_k3 (p := 12) rfl (by decide +kernel)
theorem dcX10_gather_88 : decode cX10_gather 88 = .ok (.getfield 96, 3) := dw_at cX10_gather_k3 (p := 15) rfl (by decide +kernel)
theorem dcX10_gather_91 : decode cX10_gather 91 = .ok (.iconst 0, 1) := dw_at cX10_gather_k3 (p := 18) rfl (by decide +kernel)
theorem dcX10_gather_92 : decode cX10_gather 92 = .ok (.aload_n 0, 1) := dw_at cX10_gather_k3 (p := 19) rfl (by decide +kernel)
theorem dcX10_gather_93 : decode cX10_gather 93 = .ok (.getfield 88, 3) := dw_at cX10_gather_k3 (p := 20) rfl (by decide +kernel)
theorem dcX10_gather_96 : decode cX10_gather 96 = .ok (.invokestatic 99, 3) := dw_at cX10_gather_k3 (p := 23) rfl (by decide +kernel)
theorem dcX10_gather_99 : decode cX10_gather 99 = .ok (.aload_n 0, 1) := dw_at cX10_gather_k4 (p := 0) rfl (by decide +kernel)
theorem dcX10_gather_100 : decode cX10_gather 100 = .ok (.getfield 21, 3) := dw_at cX10_gather_k4 (p := 1) rfl (by decide +kernel)
theorem dcX10_gather_103 : decode cX10_gather 103 = .ok (.aload_n 0, 1) := dw_at cX10_gather_k4 (p := 4) rfl (by decide +kernel)
theorem dcX10_gather_104 : decode cX10_gather 104 = .ok (.getfield 25, 3) := dw_at cX10_gather_k4 (p := 5) rfl (by decide +kernel)
theorem dcX10_gather_107 : decode cX10_gather 107 = .ok (.iload_n 3, 1) := dw_at cX10_gather_k4 (p := 8) rfl (by decide +kernel)
theorem dcX10_gather_108 : decode cX10_gather 108 = .ok (.iaload, 1) := dw_at cX10_gather_k4 (p := 9) rfl (by decide +kernel)
theorem dcX10_gather_109 : decode cX10_gather 109 = .ok (.invokevirtual 105, 3) := dw_at cX10_gather_k4 (p := 10) rfl (by decide +kernel)
theorem dcX10_gather_112 : decode cX10_gather 112 = .ok (.aload_n 0, 1) := dw_at cX10_gather_k4 (p := 13) rfl (by decide +kernel)
theorem dcX10_gather_113 : decode cX10_gather 113 = .ok (.getfield 21, 3) := dw_at cX10_gather_k4 (p := 14) rfl (by decide +kernel)
theorem dcX10_gather_116 : decode cX10_gather 116 = .ok (.getfield 75, 3) := dw_at cX10_gather_k4 (p := 17) rfl (by decide +kernel)
theorem dcX10_gather_119 : decode cX10_gather 119 = .ok (.aload_n 0, 1) := dw_at cX10_gather_k4 (p := 20) rfl (by decide +kernel)
theorem dcX10_gather_120 : decode cX10_gather 120 = .ok (.getfield 87, 3) := dw_at cX10_gather_k4 (p := 21) rfl (by decide +kernel)
theorem dcX10_gather_123 : decode cX10_gather 123 = .ok (.if_icmp .gt 31, 3) := dw_at cX10_gather_k5 (p := 0) rfl (by decide +kernel)
theorem dcX10_gather_126 : decode cX10_gather 126 = .ok (.aload_n 0, 1) := dw_at cX10_gather_k5 (p := 3) rfl (by decide +kernel)
theorem dcX10_gather_127 : decode cX10_gather 127 = .ok (.getfield 21, 3) := dw_at cX10_gather_k5 (p := 4) rfl (by decide +kernel)
theorem dcX10_gather_130 : decode cX10_gather 130 = .ok (.getfield 75, 3) := dw_at cX10_gather_k5 (p := 7) rfl (by decide +kernel)
theorem dcX10_gather_133 : decode cX10_gather 133 = .ok (.aload_n 0, 1) := dw_at cX10_gather_k5 (p := 10) rfl (by decide +kernel)
theorem dcX10_gather_134 : decode cX10_gather 134 = .ok (.getfield 87, 3) := dw_at cX10_gather_k5 (p := 11) rfl (by decide +kernel)
theorem dcX10_gather_137 : decode cX10_gather 137 = .ok (.if_icmp .ne 19, 3) := dw_at cX10_gather_k5 (p := 14) rfl (by decide +kernel)
theorem dcX10_gather_140 : decode cX10_gather 140 = .ok (.aload_n 0, 1) := dw_at cX10_gather_k5 (p := 17) rfl (by decide +kernel)
theorem dcX10_gather_141 : decode cX10_gather 141 = .ok (.getfield 21, 3) := dw_at cX10_gather_k5 (p := 18) rfl (by decide +kernel)
theorem dcX10_gather_144 : decode cX10_gather 144 = .ok (.getfield 81, 3) := dw_at cX10_gather_k5 (p := 21) rfl (by decide +kernel)
theorem dcX10_gather_147 : decode cX10_gather 147 = .ok (.aload_n 0, 1) := dw_at cX10_gather_k6 (p := 0) rfl (by decide +kernel)
theorem dcX10_gather_148 : decode cX10_gather 148 = .ok (.getfield 88, 3) := dw_at cX10_gather_k6 (p := 1) rfl (by decide +kernel)
theorem dcX10_gather_151 : decode cX10_gather 151 = .ok (.if_icmp .ge 5, 3) := dw_at cX10_gather_k6 (p := 4) rfl (by decide +kernel)
theorem dcX10_gather_154 : decode cX10_gather 154 = .ok (.iconst 0, 1) := dw_at cX10_gather_k6 (p := 7) rfl (by decide +kernel)
theorem dcX10_gather_155 : decode cX10_gather 155 = .ok (.ireturn, 1) := dw_at cX10_gather_k6 (p := 8) rfl (by decide +kernel)
theorem dcX10_gather_156 : decode cX10_gather 156 = .ok (.aload_n 0, 1) := dw_at cX10_gather_k6 (p := 9) rfl (by decide +kernel)
theorem dcX10_gather_157 : decode cX10_gather 157 = .ok (.getfield 21, 3) := dw_at cX10_gather_k6 (p := 10) rfl (by decide +kernel)
theorem dcX10_gather_160 : decode cX10_gather 160 = .ok (.getfield 75, 3) := dw_at cX10_gather_k6 (p := 13) rfl (by decide +kernel)
theorem dcX10_gather_163 : decode cX10_gather 163 = .ok (.aload_n 0, 1) := dw_at cX10_gather_k6 (p := 16) rfl (by decide +kernel)
theorem dcX10_gather_164 : decode cX10_gather 164 = .ok (.getfield 87, 3) := dw_at cX10_gather_k6 (p := 17) rfl (by decide +kernel)
theorem dcX10_gather_167 : decode cX10_gather 167 = .ok (.if_icmp .ne 36, 3) := dw_at cX10_gather_k6 (p := 20) rfl (by decide +kernel)
theorem dcX10_gather_170 : decode cX10_gather 170 = .ok (.aload_n 0, 1) := dw_at cX10_gather_k6 (p := 23) rfl (by decide +kernel)
theorem dcX10_gather_171 : decode cX10_gather 171 = .ok (.getfield 21, 3) := dw_at cX10_gather_k7 (p := 0) rfl (by decide +kernel)
theorem dcX10_gather_174 : decode cX10_gather 174 = .ok (.getfield 81, 3) := dw_at cX10_gather_k7 (p := 3) rfl (by decide +kernel)
theorem dcX10_gather_177 : decode cX10_gather 177 = .ok (.aload_n 0, 1) := dw_at cX10_gather_k7 (p := 6) rfl (by decide +kernel)
theorem dcX10_gather_178 : decode cX10_gather 178 = .ok (.getfield 88, 3) := dw_at cX10_gather_k7 (p := 7) rfl (by decide +kernel)
theorem dcX10_gather_181 : decode cX10_gather 181 = .ok (.if_icmp .ne 22, 3) := dw_at cX10_gather_k7 (p := 10) rfl (by decide +kernel)
theorem dcX10_gather_184 : decode cX10_gather 184 = .ok (.aload_n 0, 1) := dw_at cX10_gather_k7 (p := 13) rfl (by decide +kernel)
theorem dcX10_gather_185 : decode cX10_gather 185 = .ok (.invokevirtual 89, 3) := dw_at cX10_gather_k7 (p := 14) rfl (by decide +kernel)
theorem dcX10_gather_188 : decode cX10_gather 188 = .ok (.aload_n 0, 1) := dw_at cX10_gather_k7 (p := 17) rfl (by decide +kernel)
theorem dcX10_gather_189 : decode cX10_gather 189 = .ok (.getfield 31, 3) := dw_at cX10_gather_k7 (p := 18) rfl (by decide +kernel)
theorem dcX10_gather_192 : decode cX10_gather 192 = .ok (.iload_n 2, 1) := dw_at cX10_gather_k7 (p := 21) rfl (by decide +kernel)
theorem dcX10_gather_193 : decode cX10_gather 193 = .ok (.aload_n 0, 1) := dw_at cX10_gather_k7 (p := 22) rfl (by decide +kernel)
theorem dcX10_gather_194 : decode cX10_gather 194 = .ok (.getfield 28, 3) := dw_at cX10_gather_k7 (p := 23) rfl (by decide +kernel)
theorem dcX10_gather_197 : decode cX10_gather 197 = .ok (.iload_n 3, 1) := dw_at cX10_gather_k8 (p := 0) rfl (by decide +kernel)
theorem dcX10_gather_198 : decode cX10_gather 198 = .ok (.iaload, 1) := dw_at cX10_gather_k8 (p := 1) rfl (by decide +kernel)
theorem dcX10_gather_199 : decode cX10_gather 199 = .ok (.iastore, 1) := dw_at cX10_gather_k8 (p := 2) rfl (by decide +kernel)
theorem dcX10_gather_200 : decode cX10_gather 200 = .ok (.iinc 2 1, 3) := dw_at cX10_gather_k8 (p := 3) rfl (by decide +kernel)
theorem dcX10_gather_203 : decode cX10_gather 203 = .ok (.iinc 3 1, 3) := dw_at cX10_gather_k8 (p := 6) rfl (by decide +kernel)
theorem dcX10_gather_206 : decode cX10_gather 206 = .ok (.goto (-182), 3) := dw_at cX10_gather_k8 (p := 9) rfl (by decide +kernel)
theorem dcX10_gather_209 : decode cX10_gather 209 = .ok (.iinc 1 1, 3) := dw_at cX10_gather_k8 (p := 12) rfl (by decide +kernel)
theorem dcX10_gather_212 : decode cX10_gather 212 = .ok (.goto (-210), 3) := dw_at cX10_gather_k8 (p := 15) rfl (by decide +kernel)
theorem dcX10_gather_215 : decode cX10_gather 215 = .ok (.iconst 1, 1) := dw_at cX10_gather_k8 (p := 18) rfl (by decide +kernel)
theorem dcX10_gather_216 : decode cX10_gather 216 = .ok (.ireturn, 1) := dw_at cX10_gather_k8 (p := 19) rfl (by decide +kernel)
def cm_X10_gather_0 (vl : Nat → Nat) (K : Nat) (go : Nat → Int32 → Int32 → Int32 → Nat → ow_MS → Option (Int32 × ow_MS)) (x1 : Int32) (x2 : Int32) (x3 : Int32) (r0 : Nat) (z : ow_MS) : Option (Int32 × ow_MS) :=
 go 1 0 0 0 r0 z
def cm_X10_gather_1 (vl : Nat → Nat) (K : Nat) (go : Nat → Int32 → Int32 → Int32 → Nat → ow_MS → Option (Int32 × ow_MS)) (x1 : Int32) (x2 : Int32) (x3 : Int32) (r0 : Nat) (z : ow_MS) : Option (Int32 × ow_MS) :=
 rdF z (r0 + 4) fun v1 => (if v1 ≤ x1 then okZ 1 (some (1, z))
 else rdF z (r0 + 4) fun v2 => (if 200 < v2 then okZ 1 (some (1, z))
 else go 2 x1 0 0 r0 z))
def cm_X10_gather_2 (vl : Nat → Nat) (K : Nat) (go : Nat → Int32 → Int32 → Int32 → Nat → ow_MS → Option (Int32 × ow_MS)) (x1 : Int32) (x2 : Int32) (x3 : Int32) (r0 : Nat) (z : ow_MS) : Option (Int32 × ow_MS) :=
 rdF z (r0 + 11) fun v3 => (if v3 ≤ x3 then go 5 x1 x2 x3 r0 z
 else rdF z (r0 + 4) fun v4 => (if 200 < v4 then go 5 x1 x2 x3 r0 z
 else cs1 (ce_X10_goesOn vl K r0 x3 x2 z) fun v6 z5 => (if v6 = 0 then rdF z5 (r0 + 2) fun v7 => wrF z5 ((r0 + 1000) + 2) v7 fun z8 => rdF z8 (r0 + 3) fun v9 => wrF z8 ((r0 + 1000) + 3) v9 fun z10 => rdF z10 (r0 + 3) fun v11 => cpI (cX vl) z10 (r0 + 5) (x1 * 20) ((r0 + 1000) + 4) 0 v11 fun z12 => crI (cX vl) z12 (r0 + 8) x3 fun v13 => cs0 (ce_X5_conjugateBy vl K (r0 + 1000) v13 z12) fun z14 => rdF z14 ((r0 + 1000) + 2) fun v15 => rdF z14 (r0 + 2) fun v16 => (if v16 < v15 then okZ 0 (some (0, z14))
 else rdF z14 ((r0 + 1000) + 2) fun v17 => rdF z14 (r0 + 2) fun v18 => (if v17 = v18 then rdF z14 ((r0 + 1000) + 3) fun v19 => rdF z14 (r0 + 3) fun v20 => (if v20 ≤ v19 then go 3 x1 x2 x3 r0 z14
 else okZ 0 (some (0, z14)))
 else go 3 x1 x2 x3 r0 z14))
 else go 4 x1 x2 x3 r0 z5)))
def cm_X10_gather_3 (vl : Nat → Nat) (K : Nat) (go : Nat → Int32 → Int32 → Int32 → Nat → ow_MS → Option (Int32 × ow_MS)) (x1 : Int32) (x2 : Int32) (x3 : Int32) (r0 : Nat) (z : ow_MS) : Option (Int32 × ow_MS) :=
 rdF z ((r0 + 1000) + 2) fun v21 => rdF z (r0 + 2) fun v22 => (if v21 = v22 then rdF z ((r0 + 1000) + 3) fun v23 => rdF z (r0 + 3) fun v24 => (if v23 = v24 then cs0 (ce_X10_add vl K r0 z) fun z25 => crI (cX vl) z25 (r0 + 9) x3 fun v26 => ctI (cX vl) z25 (r0 + 10) x2 v26 fun z27 => go 4 x1 (x2 + 1) x3 r0 z27
 else go 4 x1 x2 x3 r0 z)
 else go 4 x1 x2 x3 r0 z)
def cm_X10_gather_4 (vl : Nat → Nat) (K : Nat) (go : Nat → Int32 → Int32 → Int32 → Nat → ow_MS → Option (Int32 × ow_MS)) (x1 : Int32) (x2 : Int32) (x3 : Int32) (r0 : Nat) (z : ow_MS) : Option (Int32 × ow_MS) :=
 go 2 x1 x2 (x3 + 1) r0 z
def cm_X10_gather_5 (vl : Nat → Nat) (K : Nat) (go : Nat → Int32 → Int32 → Int32 → Nat → ow_MS → Option (Int32 × ow_MS)) (x1 : Int32) (x2 : Int32) (x3 : Int32) (r0 : Nat) (z : ow_MS) : Option (Int32 × ow_MS) :=
 go 1 (x1 + 1) 0 0 r0 z
def cb_X10_gather (vl : Nat → Nat) (K : Nat) (go : Nat → Int32 → Int32 → Int32 → Nat → ow_MS → Option (Int32 × ow_MS)) (L : Nat) (x1 : Int32) (x2 : Int32) (x3 : Int32) (r0 : Nat) (z : ow_MS) : Option (Int32 × ow_MS) := match L with
  | 0 => cm_X10_gather_0 vl K go x1 x2 x3 r0 z
  | 1 => cm_X10_gather_1 vl K go x1 x2 x3 r0 z
  | 2 => cm_X10_gather_2 vl K go x1 x2 x3 r0 z
  | 3 => cm_X10_gather_3 vl K go x1 x2 x3 r0 z
  | 4 => cm_X10_gather_4 vl K go x1 x2 x3 r0 z
  | 5 => cm_X10_gather_5 vl K go x1 x2 x3 r0 z
  | _ => none
def c_X10_gather (vl : Nat → Nat) (K : Nat) : Nat → Nat → Int32 → Int32 → Int32 → Nat → ow_MS → Option (Int32 × ow_MS)
  | 0 => fun _ _ _ _ _ _ => none
  | k + 1 => cb_X10_gather vl K (c_X10_gather vl K k)
def ce_X10_gather (vl : Nat → Nat) (K : Nat) (r0 : Nat) (z : ow_MS) : Option (Int32 × ow_MS) := c_X10_gather vl K K 0 0 0 0 r0 z
abbrev wc_X10_gather : List Cond := .code yX10_gather cX10_gather 4 (some .boolean) :: wC
theorem cdd_X10_gather : yX10_gather.cls = RX10 ∧ yX10_gather.cls ≠ "java/lang/invoke/MethodHandle" ∧ yX10_gather.cls ≠ "java/lang/invoke/VarHandle" ∧ (parseMethodDescriptor yX10_gather.desc).map (fun d => d.parameters.length) = some 0 := by decide +kernel
set_option maxHeartbeats 4000000 in
set_option maxRecDepth 100000 in
theorem kc_X10_gather (l : Launch) (D : va_G) (q : Nat → ClassId) (vl u : Nat → Nat) (hU0 : tw_inj (cX vl) u) (K : Nat) (r0 : Nat) (hr0 : cw_X10 r0) (z z1 : ow_MS) (r : Int32) (hq : ce_X10_gather vl K r0 z = some (r, z1)) : Met l yX10_gather wc_X10_gather ({ frames := 5, cells := 0, slots := 0, locals := 128 } : Room) (va_Pc [.ref (u r0)] (cw_pre D q vl u z)) (va_Qi (fun x (_ : Unit) => x = r) (fun _ t => va_P D vwCl (uw (cX vl) q u z1) t.heap) (tw_A (cX vl) u)) 0 0 (tw_A (cX vl) u) := by
  refine Met.ofW (cc := cX10_gather) (maxL := 4) (ret := (some .boolean)) (by decide) rfl ?_
  intro p e s m args below meth c s₁ B hml hv
  obtain ⟨rfl, hP, hK⟩ := hv
  have hx := B.exec
  have hb := B.bytes
  have hr := B.returns
  have hts := atoms_spec (ws := wc_X10_gather) B.pre
  have hT : ∀ w ∈ wC, w.before ([.ref (u r0)] : List Value).toArray s = true := fun w h => hts w (List.mem_cons_of_mem _ h)
  have hown : s.vm.findClass RX10 = some m.cls := findClass_of_methodNamed B.named
  have hlocks := B.notSynchronized
  have hU : uw_inj (cX vl) u (tw_A (cX vl) u) := ⟨hU0, fun h hh => ⟨h, hh, rfl⟩⟩
  have hM : uw_M D vwCl (cX vl) q (tw_A (cX vl) u) s.heap u z s.heap [] := ⟨hP, va_S.rf⟩
  have hl := lv_entry ([.ref (u r0)]) (n := 4) (Nat.le_of_ble_eq_true rfl)
  rw [lg_entry_eq]
  generalize (lg_sl ([.ref (u r0)]) ++ List.replicate (4 - (lg_sl ([.ref (u r0)])).length) Slot.unset).toArray = ls at hl ⊢
  have hl : lv_has ls 4 [(0, .ref (u r0))] := hl
  refine ow_named (fun QQ hQQ => ?_)
  generalize ([.ref (u r0)] : List Value).toArray = args at hts hT hQQ ⊢
  have key : ∀ k : Nat, (∀ (x1 : Int32) (x2 : Int32) (x3 : Int32) (r0 : Nat) (z : ow_MS) (H : Heap) (locs : List Loc) (ls : Array Slot), cw_X10 r0 → uw_M D vwCl (cX vl) q (tw_A (cX vl) u) s.heap u z H locs → lv_has ls 4 [(0, .ref (u r0))] → c_X10_gather vl K k 0 x1 x2 x3 r0 z = some (r, z1) → W p l e ({ frames := 5, cells := 0, slots := 0, locals := 128 } : Room) s m args below meth c H locs 0 0 QQ (F0 m 0 ls [])) ∧ (∀ (x1 : Int32) (x2 : Int32) (x3 : Int32) (r0 : Nat) (z : ow_MS) (H : Heap) (locs : List Loc) (ls : Array Slot), cw_X10 r0 → uw_M D vwCl (cX vl) q (tw_A (cX vl) u) s.heap u z H locs → lv_has ls 4 [(0, .ref (u r0)), (1, .int x1)] → c_X10_gather vl K k 1 x1 x2 x3 r0 z = some (r, z1) → W p l e ({ frames := 5, cells := 0, slots := 0, locals := 128 } : Room) s m args below meth c H locs 0 0 QQ (F0 m 2 ls [])) ∧ (∀ (x1 : Int32) (x2 : Int32) (x3 : Int32) (r0 : Nat) (z : ow_MS) (H : Heap) (locs : List Loc) (ls : Array Slot), cw_X10 r0 → uw_M D vwCl (cX vl) q (tw_A (cX vl) u) s.heap u z H locs → lv_has ls 4 [(0, .ref (u r0)), (1, .int x1), (2, .int x2), (3, .int x3)] → c_X10_gather vl K k 2 x1 x2 x3 r0 z = some (r, z1) → W p l e ({ frames := 5, cells := 0, slots := 0, locals := 128 } : Room) s m args below meth c H locs 0 0 QQ (F0 m 24 ls [])) ∧ (∀ (x1 : Int32) (x2 : Int32) (x3 : Int32) (r0 : Nat) (z : ow_MS) (H : Heap) (locs : List Loc) (ls : Array Slot), cw_X10 r0 → uw_M D vwCl (cX vl) q (tw_A (cX vl) u) s.heap u z H locs → lv_has ls 4 [(0, .ref (u r0)), (1, .int x1), (2, .int x2), (3, .int x3)] → c_X10_gather vl K k 3 x1 x2 x3 r0 z = some (r, z1) → W p l e ({ frames := 5, cells := 0, slots := 0, locals := 128 } : Room) s m args below meth c H locs 0 0 QQ (F0 m 156 ls [])) ∧ (∀ (x1 : Int32) (x2 : Int32) (x3 : Int32) (r0 : Nat) (z : ow_MS) (H : Heap) (locs : List Loc) (ls : Array Slot), cw_X10 r0 → uw_M D vwCl (cX vl) q (tw_A (cX vl) u) s.heap u z H locs → lv_has ls 4 [(0, .ref (u r0)), (1, .int x1), (2, .int x2), (3, .int x3)] → c_X10_gather vl K k 4 x1 x2 x3 r0 z = some (r, z1) → W p l e ({ frames := 5, cells := 0, slots := 0, locals := 128 } : Room) s m args below meth c H locs 0 0 QQ (F0 m 203 ls [])) ∧ (∀ (x1 : Int32) (x2 : Int32) (x3 : Int32) (r0 : Nat) (z : ow_MS) (H : Heap) (locs : List Loc) (ls : Array Slot), cw_X10 r0 → uw_M D vwCl (cX vl) q (tw_A (cX vl) u) s.heap u z H locs → lv_has ls 4 [(0, .ref (u r0)), (1, .int x1), (2, .int x2), (3, .int x3)] → c_X10_gather vl K k 5 x1 x2 x3 r0 z = some (r, z1) → W p l e ({ frames := 5, cells := 0, slots := 0, locals := 128 } : Room) s m args below meth c H locs 0 0 QQ (F0 m 209 ls [])) := by
    intro k
    induction k with
    | zero => exact ⟨fun _ _ _ _ _ _ _ _ _ _ _ hq => cw_no hq, fun _ _ _ _ _ _ _ _ _ _ _ hq => cw_no hq, fun _ _ _ _ _ _ _ _ _ _ _ hq => cw_no hq, fun _ _ _ _ _ _ _ _ _ _ _ hq => cw_no hq, fun _ _ _ _ _ _ _ _ _ _ _ hq => cw_no hq, fun _ _ _ _ _ _ _ _ _ _ _ hq => cw_no hq⟩
    | succ k ih =>
      obtain ⟨ih_0, ih_1, ih_2, ih_3, ih_4, ih_5⟩ := ih
      refine ⟨?_, ?_, ?_, ?_, ?_, ?_⟩
      · intro x1 x2 x3 r0 z H locs ls hr0 hM hl hq
        have hq : cm_X10_gather_0 vl K (c_X10_gather vl K k) x1 x2 x3 r0 z = some (r, z1) := hq
        unfold cm_X10_gather_0 at hq
        refine lv_iconst (v := 0) hx hb dcX10_gather_0 (by decide) ?_
        refine lv_istore_n (lv' := [(1, .int 0), (0, .ref (u r0))]) hx hb dcX10_gather_1 rfl hl (by decide) rfl (fun ls hl => ?_)
        exact ih_1 0 0 0 r0 z H locs ls hr0 hM (lv_sub hl [1, 0] rfl) hq
      · intro x1 x2 x3 r0 z H locs ls hr0 hM hl hq
        have hq : cm_X10_gather_1 vl K (c_X10_gather vl K k) x1 x2 x3 r0 z = some (r, z1) := hq
        unfold cm_X10_gather_1 at hq
        refine lv_iload_n hx hb dcX10_gather_2 rfl (lv_at hl 1 rfl) ?_
        refine lv_aload_n hx hb dcX10_gather_3 rfl (lv_at hl 0 rfl) ?_
        refine vgX10_56 hx hb hT hown hK hM hr0 hq dcX10_gather_4 (fun v1 hq => ?_)
        refine lv_icmp_ge (tgt := 215) hx hb dcX10_gather_7 (by decide) (fun hc => ?_) (fun hc => ?_)
        · have hq := tw_it hq hc
          refine lv_iconst (v := 1) hx hb dcX10_gather_215 (by decide) ?_
          obtain ⟨hz, hq⟩ := tw_gZ hq
          exact cw_zret hx hb hr hlocks hM hz hq hQQ dcX10_gather_216
        · have hq := tw_if hq hc
          refine lv_aload_n hx hb dcX10_gather_10 rfl (lv_at hl 0 rfl) ?_
          refine vgX10_56 hx hb hT hown hK hM hr0 hq dcX10_gather_11 (fun v2 hq => ?_)
          refine lv_sipush (v := 200) hx hb dcX10_gather_14 (by decide) ?_
          refine lv_icmp_gt (tgt := 215) hx hb dcX10_gather_17 (by decide) (fun hc => ?_) (fun hc => ?_)
          · have hq := tw_it hq hc
            refine lv_iconst (v := 1) hx hb dcX10_gather_215 (by decide) ?_
            obtain ⟨hz, hq⟩ := tw_gZ hq
            exact cw_zret hx hb hr hlocks hM hz hq hQQ dcX10_gather_216
          · have hq := tw_if hq hc
            refine lv_iconst (v := 0) hx hb dcX10_gather_20 (by decide) ?_
            refine lv_istore_n (lv' := [(2, .int 0), (0, .ref (u r0)), (1, .int x1)]) hx hb dcX10_gather_21 rfl hl (by decide) rfl (fun ls hl => ?_)
            refine lv_iconst (v := 0) hx hb dcX10_gather_22 (by decide) ?_
            refine lv_istore_n (lv' := [(3, .int 0), (2, .int 0), (0, .ref (u r0)), (1, .int x1)]) hx hb dcX10_gather_23 rfl hl (by decide) rfl (fun ls hl => ?_)
            exact ih_2 x1 0 0 r0 z H locs ls hr0 hM (lv_sub hl [2, 3, 1, 0] rfl) hq
      · intro x1 x2 x3 r0 z H locs ls hr0 hM hl hq
        have hq : cm_X10_gather_2 vl K (c_X10_gather vl K k) x1 x2 x3 r0 z = some (r, z1) := hq
        unfold cm_X10_gather_2 at hq
        refine lv_iload_n hx hb dcX10_gather_24 rfl (lv_at hl 3 rfl) ?_
        refine lv_aload_n hx hb dcX10_gather_25 rfl (lv_at hl 0 rfl) ?_
        refine vgX10_59 hx hb hT hown hK hM hr0 hq dcX10_gather_26 (fun v3 hq => ?_)
        refine lv_icmp_ge (tgt := 209) hx hb dcX10_gather_29 (by decide) (fun hc => ?_) (fun hc => ?_)
        · have hq := tw_it hq hc
          exact ih_5 x1 x2 x3 r0 z H locs ls hr0 hM (lv_sub hl [0, 1, 2, 3] rfl) hq
        · have hq := tw_if hq hc
          refine lv_aload_n hx hb dcX10_gather_32 rfl (lv_at hl 0 rfl) ?_
          refine vgX10_56 hx hb hT hown hK hM hr0 hq dcX10_gather_33 (fun v4 hq => ?_)
          refine lv_sipush (v := 200) hx hb dcX10_gather_36 (by decide) ?_
          refine lv_icmp_gt (tgt := 209) hx hb dcX10_gather_39 (by decide) (fun hc => ?_) (fun hc => ?_)
          · have hq := tw_it hq hc
            exact ih_5 x1 x2 x3 r0 z H locs ls hr0 hM (lv_sub hl [0, 1, 2, 3] rfl) hq
          · have hq := tw_if hq hc
            refine lv_aload_n hx hb dcX10_gather_42 rfl (lv_at hl 0 rfl) ?_
            refine lv_iload_n hx hb dcX10_gather_43 rfl (lv_at hl 3 rfl) ?_
            refine lv_iload_n hx hb dcX10_gather_44 rfl (lv_at hl 2 rfl) ?_
            obtain ⟨v6, z5, hcq, hq⟩ := tw_cl1 hq
            refine uw_cali hU hM (va_runV (As := [.int x3, .int x2]) (rest := []) ⟨hx, hb, hml, hown, hts⟩ (kc_X10_goesOn l D q vl u hU.1 K r0 x3 x2 hr0 z z5 v6 hcq) (cwV 2 hts (tw_gV wC_good xq_750 xq_751 xq_752 xq_704 xq_753) rfl rfl rfl cdd_X10_goesOn ⟨(Nat.le_of_ble_eq_true rfl), (Nat.le_of_ble_eq_true rfl)⟩) (cw_preV hK hM (co_X10 hr0) rfl) rfl rfl hl.1 rfl (lv_room (Nat.le_of_ble_eq_true rfl)) dcX10_gather_45 ⟨(Nat.le_of_ble_eq_true rfl), (Nat.le_of_ble_eq_true rfl)⟩) (fun H locs hM => ?_)
            refine lv_if_eq (tgt := 54) hx hb dcX10_gather_48 (by decide) (fun hc => ?_) (fun hc => ?_)
            · have hq := tw_it hq hc
              refine lv_aload_n hx hb dcX10_gather_54 rfl (lv_at hl 0 rfl) ?_
              refine vgX10_21 hx hb hT hown hK hM hr0 dcX10_gather_55 ?_
              refine lv_aload_n hx hb dcX10_gather_58 rfl (lv_at hl 0 rfl) ?_
              refine vgX10_87 hx hb hT hown hK hM hr0 hq dcX10_gather_59 (fun v7 hq => ?_)
              refine vpX10_75 hx hb hT hown hK hM hU (cs_X10_6 hr0) hq dcX10_gather_62 (fun z8 H locs hM hq => ?_)
              refine lv_aload_n hx hb dcX10_gather_65 rfl (lv_at hl 0 rfl) ?_
              refine vgX10_21 hx hb hT hown hK hM hr0 dcX10_gather_66 ?_
              refine lv_aload_n hx hb dcX10_gather_69 rfl (lv_at hl 0 rfl) ?_
              refine vgX10_88 hx hb hT hown hK hM hr0 hq dcX10_gather_70 (fun v9 hq => ?_)
              refine vpX10_81 hx hb hT hown hK hM hU (cs_X10_6 hr0) hq dcX10_gather_73 (fun z10 H locs hM hq => ?_)
              refine lv_aload_n hx hb dcX10_gather_76 rfl (lv_at hl 0 rfl) ?_
              refine vgX10_11 hx hb hT hown hK hM hr0 dcX10_gather_77 ?_
              refine lv_iload_n hx hb dcX10_gather_80 rfl (lv_at hl 1 rfl) ?_
              refine lv_bipush (v := 20) hx hb dcX10_gather_81 (by decide) ?_
              refine lv_imul hx hb dcX10_gather_83 ?_
              refine lv_aload_n hx hb dcX10_gather_84 rfl (lv_at hl 0 rfl) ?_
              refine vgX10_21 hx hb hT hown hK hM hr0 dcX10_gather_85 ?_
              refine vgX10_96 hx hb hT hown hK hM (cs_X10_6 hr0) dcX10_gather_88 ?_
              refine lv_iconst (v := 0) hx hb dcX10_gather_91 (by decide) ?_
              refine lv_aload_n hx hb dcX10_gather_92 rfl (lv_at hl 0 rfl) ?_
              refine vgX10_88 hx hb hT hown hK hM hr0 hq dcX10_gather_93 (fun v11 hq => ?_)
              refine uw_cpI cX_ok hU hx hb (by rw [hml]; exact hl.1.symm) hown (hT _ xq_740) (hT _ xq_130) (hT _ xq_131) (hT _ xq_132) hK hM (cr_X10_4 hr0) (cr_X5_3 (cs_X10_6 hr0)) hq (Nat.le_of_ble_eq_true rfl) (by decide) dcX10_gather_96 (fun z12 H locs hM hq => ?_)
              refine lv_aload_n hx hb dcX10_gather_99 rfl (lv_at hl 0 rfl) ?_
              refine vgX10_21 hx hb hT hown hK hM hr0 dcX10_gather_100 ?_
              refine lv_aload_n hx hb dcX10_gather_103 rfl (lv_at hl 0 rfl) ?_
              refine vgX10_25 hx hb hT hown hK hM hr0 dcX10_gather_104 ?_
              refine lv_iload_n hx hb dcX10_gather_107 rfl (lv_at hl 3 rfl) ?_
              refine uw_iald cX_ok hx hb hK hM (cr_X10_7 hr0) hq dcX10_gather_108 (fun v13 hq => ?_)
              obtain ⟨z14, hcq, hq⟩ := tw_cl0 hq
              refine uw_calv hU hM (va_runV (As := [.int v13]) (rest := []) ⟨hx, hb, hml, hown, hts⟩ (kc_X5_conjugateBy l D q vl u hU.1 K (r0 + 1000) v13 (cs_X10_6 hr0) z12 z14 hcq) (cwV 1 hts (tw_gV wC_good xq_754 xq_755 xq_756 xq_403 xq_461) rfl rfl rfl cdd_X5_conjugateBy ⟨(Nat.le_of_ble_eq_true rfl), (Nat.le_of_ble_eq_true rfl)⟩) (cw_preV hK hM (co_X5 (cs_X10_6 hr0)) rfl) rfl rfl hl.1 rfl (lv_room (Nat.le_of_ble_eq_true rfl)) dcX10_gather_109 ⟨(Nat.le_of_ble_eq_true rfl), (Nat.le_of_ble_eq_true rfl)⟩) (fun H locs hM => ?_)
              refine lv_aload_n hx hb dcX10_gather_112 rfl (lv_at hl 0 rfl) ?_
              refine vgX10_21 hx hb hT hown hK hM hr0 dcX10_gather_113 ?_
              refine vgX10_75 hx hb hT hown hK hM (cs_X10_6 hr0) hq dcX10_gather_116 (fun v15 hq => ?_)
              refine lv_aload_n hx hb dcX10_gather_119 rfl (lv_at hl 0 rfl) ?_
              refine vgX10_87 hx hb hT hown hK hM hr0 hq dcX10_gather_120 (fun v16 hq => ?_)
              refine lv_icmp_gt (tgt := 154) hx hb dcX10_gather_123 (by decide) (fun hc => ?_) (fun hc => ?_)
              · have hq := tw_it hq hc
                refine lv_iconst (v := 0) hx hb dcX10_gather_154 (by decide) ?_
                obtain ⟨hz, hq⟩ := tw_gZ hq
                exact cw_zret hx hb hr hlocks hM hz hq hQQ dcX10_gather_155
              · have hq := tw_if hq hc
                refine lv_aload_n hx hb dcX10_gather_126 rfl (lv_at hl 0 rfl) ?_
                refine vgX10_21 hx hb hT hown hK hM hr0 dcX10_gather_127 ?_
                refine vgX10_75 hx hb hT hown hK hM (cs_X10_6 hr0) hq dcX10_gather_130 (fun v17 hq => ?_)
                refine lv_aload_n hx hb dcX10_gather_133 rfl (lv_at hl 0 rfl) ?_
                refine vgX10_87 hx hb hT hown hK hM hr0 hq dcX10_gather_134 (fun v18 hq => ?_)
                refine lv_icmp_ne (tgt := 156) hx hb dcX10_gather_137 (by decide) (fun hc => ?_) (fun hc => ?_)
                · have hq := tw_if hq hc
                  exact ih_3 x1 x2 x3 r0 z14 H locs ls hr0 hM (lv_sub hl [0, 1, 2, 3] rfl) hq
                · have hq := tw_it hq hc
                  refine lv_aload_n hx hb dcX10_gather_140 rfl (lv_at hl 0 rfl) ?_
                  refine vgX10_21 hx hb hT hown hK hM hr0 dcX10_gather_141 ?_
                  refine vgX10_81 hx hb hT hown hK hM (cs_X10_6 hr0) hq dcX10_gather_144 (fun v19 hq => ?_)
                  refine lv_aload_n hx hb dcX10_gather_147 rfl (lv_at hl 0 rfl) ?_
                  refine vgX10_88 hx hb hT hown hK hM hr0 hq dcX10_gather_148 (fun v20 hq => ?_)
                  refine lv_icmp_ge (tgt := 156) hx hb dcX10_gather_151 (by decide) (fun hc => ?_) (fun hc => ?_)
                  · have hq := tw_it hq hc
                    exact ih_3 x1 x2 x3 r0 z14 H locs ls hr0 hM (lv_sub hl [0, 1, 2, 3] rfl) hq
                  · have hq := tw_if hq hc
                    refine lv_iconst (v := 0) hx hb dcX10_gather_154 (by decide) ?_
                    obtain ⟨hz, hq⟩ := tw_gZ hq
                    exact cw_zret hx hb hr hlocks hM hz hq hQQ dcX10_gather_155
            · have hq := tw_if hq hc
              refine lv_goto (tgt := 203) hx hb dcX10_gather_51 (by decide) ?_
              exact ih_4 x1 x2 x3 r0 z5 H locs ls hr0 hM (lv_sub hl [0, 1, 2, 3] rfl) hq
      · intro x1 x2 x3 r0 z H locs ls hr0 hM hl hq
        have hq : cm_X10_gather_3 vl K (c_X10_gather vl K k) x1 x2 x3 r0 z = some (r, z1) := hq
        unfold cm_X10_gather_3 at hq
        refine lv_aload_n hx hb dcX10_gather_156 rfl (lv_at hl 0 rfl) ?_
        refine vgX10_21 hx hb hT hown hK hM hr0 dcX10_gather_157 ?_
        refine vgX10_75 hx hb hT hown hK hM (cs_X10_6 hr0) hq dcX10_gather_160 (fun v21 hq => ?_)
        refine lv_aload_n hx hb dcX10_gather_163 rfl (lv_at hl 0 rfl) ?_
        refine vgX10_87 hx hb hT hown hK hM hr0 hq dcX10_gather_164 (fun v22 hq => ?_)
        refine lv_icmp_ne (tgt := 203) hx hb dcX10_gather_167 (by decide) (fun hc => ?_) (fun hc => ?_)
        · have hq := tw_if hq hc
          exact ih_4 x1 x2 x3 r0 z H locs ls hr0 hM (lv_sub hl [0, 1, 2, 3] rfl) hq
        · have hq := tw_it hq hc
          refine lv_aload_n hx hb dcX10_gather_170 rfl (lv_at hl 0 rfl) ?_
          refine vgX10_21 hx hb hT hown hK hM hr0 dcX10_gather_171 ?_
          refine vgX10_81 hx hb hT hown hK hM (cs_X10_6 hr0) hq dcX10_gather_174 (fun v23 hq => ?_)
          refine lv_aload_n hx hb dcX10_gather_177 rfl (lv_at hl 0 rfl) ?_
          refine vgX10_88 hx hb hT hown hK hM hr0 hq dcX10_gather_178 (fun v24 hq => ?_)
          refine lv_icmp_ne (tgt := 203) hx hb dcX10_gather_181 (by decide) (fun hc => ?_) (fun hc => ?_)
          · have hq := tw_if hq hc
            exact ih_4 x1 x2 x3 r0 z H locs ls hr0 hM (lv_sub hl [0, 1, 2, 3] rfl) hq
          · have hq := tw_it hq hc
            refine lv_aload_n hx hb dcX10_gather_184 rfl (lv_at hl 0 rfl) ?_
            obtain ⟨z25, hcq, hq⟩ := tw_cl0 hq
            refine uw_calv hU hM (va_runV (As := []) (rest := []) ⟨hx, hb, hml, hown, hts⟩ (kc_X10_add l D q vl u hU.1 K r0 hr0 z z25 hcq) (cwV 0 hts (tw_gV wC_good xq_733 xq_734 xq_735 xq_704 xq_736) rfl rfl rfl cdd_X10_add ⟨(Nat.le_of_ble_eq_true rfl), (Nat.le_of_ble_eq_true rfl)⟩) (cw_preV hK hM (co_X10 hr0) rfl) rfl rfl hl.1 rfl (lv_room (Nat.le_of_ble_eq_true rfl)) dcX10_gather_185 ⟨(Nat.le_of_ble_eq_true rfl), (Nat.le_of_ble_eq_true rfl)⟩) (fun H locs hM => ?_)
            refine lv_aload_n hx hb dcX10_gather_188 rfl (lv_at hl 0 rfl) ?_
            refine vgX10_31 hx hb hT hown hK hM hr0 dcX10_gather_189 ?_
            refine lv_iload_n hx hb dcX10_gather_192 rfl (lv_at hl 2 rfl) ?_
            refine lv_aload_n hx hb dcX10_gather_193 rfl (lv_at hl 0 rfl) ?_
            refine vgX10_28 hx hb hT hown hK hM hr0 dcX10_gather_194 ?_
            refine lv_iload_n hx hb dcX10_gather_197 rfl (lv_at hl 3 rfl) ?_
            refine uw_iald cX_ok hx hb hK hM (cr_X10_8 hr0) hq dcX10_gather_198 (fun v26 hq => ?_)
            refine uw_iast cX_ok hU hx hb hK hM (cr_X10_9 hr0) hq dcX10_gather_199 (fun z27 H locs hM hq => ?_)
            refine lv_iinc (v := (x2 + 1)) (lv' := [(2, .int (x2 + 1)), (0, .ref (u r0)), (1, .int x1), (3, .int x3)]) hx hb dcX10_gather_200 hl (k := 2) rfl rfl (by decide) rfl (fun ls hl => ?_)
            exact ih_4 x1 (x2 + 1) x3 r0 z27 H locs ls hr0 hM (lv_sub hl [1, 2, 0, 3] rfl) hq
      · intro x1 x2 x3 r0 z H locs ls hr0 hM hl hq
        have hq : cm_X10_gather_4 vl K (c_X10_gather vl K k) x1 x2 x3 r0 z = some (r, z1) := hq
        unfold cm_X10_gather_4 at hq
        refine lv_iinc (v := (x3 + 1)) (lv' := [(3, .int (x3 + 1)), (0, .ref (u r0)), (1, .int x1), (2, .int x2)]) hx hb dcX10_gather_203 hl (k := 3) rfl rfl (by decide) rfl (fun ls hl => ?_)
        refine lv_goto (tgt := 24) hx hb dcX10_gather_206 (by decide) ?_
        exact ih_2 x1 x2 (x3 + 1) r0 z H locs ls hr0 hM (lv_sub hl [1, 2, 3, 0] rfl) hq
      · intro x1 x2 x3 r0 z H locs ls hr0 hM hl hq
        have hq : cm_X10_gather_5 vl K (c_X10_gather vl K k) x1 x2 x3 r0 z = some (r, z1) := hq
        unfold cm_X10_gather_5 at hq
        refine lv_iinc (v := (x1 + 1)) (lv' := [(1, .int (x1 + 1)), (0, .ref (u r0)), (2, .int x2), (3, .int x3)]) hx hb dcX10_gather_209 hl (k := 1) rfl rfl (by decide) rfl (fun ls hl => ?_)
        refine lv_goto (tgt := 2) hx hb dcX10_gather_212 (by decide) ?_
        exact ih_1 (x1 + 1) 0 0 r0 z H locs ls hr0 hM (lv_sub hl [1, 0] rfl) hq
  exact (key K).1 0 0 0 r0 z s.heap [] ls hr0 hM (lv_sub hl [0] rfl) hq
theorem dcX10_changesOf_0 : decode cX10_changesOf 0 = .ok (.iconst 0, 1) := dw_at cX10_changesOf_k0 (p := 0) rfl (by decide +kernel)
theorem dcX10_changesOf_1 : decode cX10_changesOf 1 = .ok (.istore_n 2, 1) := dw_at cX10_changesOf_k0 (p := 1) rfl (by decide +kernel)
theorem dcX10_changesOf_2 : decode cX10_changesOf 2 = .ok (.iconst 0, 1) := dw_at cX10_changesOf_k0 (p := 2) rfl (by decide +kernel)
theorem dcX10_changesOf_3 : decode cX10_changesOf 3 = .ok (.istore_n 3, 1) := dw_at cX10_changesOf_k0 (p := 3) rfl (by decide +kernel)
theorem dcX10_changesOf_4 : decode cX10_changesOf 4 = .ok (.iload_n 3, 1) := dw_at cX10_changesOf_k0 (p := 4) rfl (by decide +kernel)
theorem dcX10_changesOf_5 : decode cX10_changesOf 5 = .ok (.aload_n 0, 1) := dw_at cX10_changesOf_k0 (p := 5) rfl (by decide +kernel)
theorem dcX10_changesOf_6 : decode cX10_changesOf 6 = .ok (.getfield 38, 3) := dw_at cX10_changesOf_k0 (p := 6) rfl (by decide +kernel)
theorem dcX10_changesOf_9 : decode cX10_changesOf 9 = .ok (.if_icmp .ge 58, 3) := dw_at cX10_changesOf_k0 (p := 9) rfl (by decide +kernel)
theorem dcX10_changesOf_12 : decode cX10_changesOf 12 = .ok (.iload_n 3, 1) := dw_at cX10_changesOf_k0 (p := 12) rfl (by decide +kernel)
theorem dcX10_changesOf_13 : decode cX10_changesOf 13 = .ok (.iconst 1, 1) := dw_at cX10_changesOf_k0 (p := 13) rfl (by decide +kernel)
theorem dcX10_changesOf_14 : decode cX10_changesOf 14 = .ok (.iadd, 1) := dw_at cX10_changesOf_k0 (p := 14) rfl (by decide +kernel)
theorem dcX10_changesOf_15 : decode cX10_changesOf 15 = .ok (.istore 4, 2) := dw_at cX10_changesOf_k0 (p := 15) rfl (by decide +kernel)
theorem dcX10_changesOf_17 : decode cX10_changesOf 17 = .ok (.iload 4, 2) := dw_at cX10_changesOf_k0 (p := 17) rfl (by decide +kernel)
theorem dcX10_changesOf_19 : decode cX10_changesOf 19 = .ok (.aload_n 0, 1) := dw_at cX10_changesOf_k0 (p := 19) rfl (by decide +kernel)
theorem dcX10_changesOf_20 : decode cX10_changesOf 20 = .ok (.getfield 38, 3) := dw_at cX10_changesOf_k0 (p := 20) rfl (by decide +kernel)
theorem dcX10_changesOf_23 : decode cX10_changesOf 23 = .ok (.if_icmp .ge 38, 3) := dw_at cX10_changesOf_k0 (p := 23) rfl (by decide +kernel)
theorem dcX10_changesOf_26 : decode cX10_changesOf 26 = .ok (.iload_n 2, 1) := dw_at cX10_changesOf_k1 (p := 0) rfl (by decide +kernel)
theorem dcX10_changesOf_27 : decode cX10_changesOf 27 = .ok (.iload_n 1, 1) := dw_at cX10_changesOf_k1 (p := 1) rfl (by decide +kernel)
theorem dcX10_changesOf_28 : decode cX10_changesOf 28 = .ok (.iload_n 3, 1) := dw_at cX10_changesOf_k1 (p := 2) rfl (by decide +kernel)
theorem dcX10_changesOf_29 : decode cX10_changesOf 29 = .ok (.invokestatic 71, 3) := dw_at cX10_changesOf_k1 (p := 3) rfl (by decide +kernel)
theorem dcX10_changesOf_32 : decode cX10_changesOf 32 = .ok (.iload_n 1, 1) := dw_at cX10_changesOf_k1 (p := 6) rfl (by decide +kernel)
theorem dcX10_changesOf_33 : decode cX10_changesOf 33 = .ok (.iload 4, 2) := dw_at cX10_changesOf_k1 (p := 7) rfl (by decide +kernel)
theorem dcX10_changesOf_35 : decode cX10_changesOf 35 = .ok (.invokestatic 71, 3) := dw_at cX10_changesOf_k1 (p := 9) rfl (by decide +kernel)
theorem dcX10_changesOf_38 : decode cX10_changesOf 38 = .ok (.if_icmp .le 14, 3) := dw_at cX10_changesOf_k1 (p := 12) rfl (by decide +kernel)
theorem dcX10_changesOf_41 : decode cX10_changesOf 41 = .ok (.iconst 1, 1) := dw_at cX10_changesOf_k1 (p := 15) rfl (by decide +kernel)
theorem dcX10_changesOf_42 : decode cX10_changesOf 42 = .ok (.iconst 4, 1) := dw_at cX10_changesOf_k1 (p := 16) rfl (by decide +kernel)
theorem dcX10_changesOf_43 : decode cX10_changesOf 43 = .ok (.iload_n 3, 1) := dw_at cX10_changesOf_k1 (p := 17) rfl (by decide +kernel)
theorem dcX10_changesOf_44 : decode cX10_changesOf 44 = .ok (.imul, 1) := dw_at cX10_changesOf_k1 (p := 18) rfl (by decide +kernel)
theorem dcX10_changesOf_45 : decode cX10_changesOf 45 = .ok (.iload 4, 2) := dw_at cX10_changesOf_k1 (p := 19) rfl (by decide +kernel)
theorem dcX10_changesOf_47 : decode cX10_changesOf 47 = .ok (.iadd, 1) := dw_at cX10_changesOf_k1 (p := 21) rfl (by decide +kernel)
theorem dcX10_changesOf_48 : decode cX10_changesOf 48 = .ok (.ishl, 1) := dw_at cX10_changesOf_k1 (p := 22) rfl (by decide +kernel)
theorem dcX10_changesOf_49 : decode cX10_changesOf 49 = .ok (.goto 4, 3) := dw_at cX10_changesOf_k1 (p := 23) rfl (by decide +kernel)
theorem dcX10_changesOf_52 : decode cX10_changesOf 52 = .ok (.iconst 0, 1) := dw_at cX10_changesOf_k2 (p := 0) rfl (by decide +kernel)
theorem dcX10_changesOf_53 : decode cX10_changesOf 53 = .ok (.ior, 1) := dw_at cX10_changesOf_k2 (p := 1) rfl (by decide +kernel)
theorem dcX10_changesOf_54 : decode cX10_changesOf 54 = .ok (.istore_n 2, 1) := dw_at cX10_changesOf_k2 (p := 2) rfl (by decide +kernel)
theorem dcX10_changesOf_55 : decode cX10_changesOf 55 = .ok (.iinc 4 1, 3) := dw_at cX10_changesOf_k2 (p := 3) rfl (by decide +kernel)
theorem dcX10_changesOf_58 : decode cX10_changesOf 58 = .ok (.goto (-41), 3) := dw_at cX10_changesOf_k2 (p := 6) rfl (by decide +kernel)
theorem dcX10_changesOf_61 : decode cX10_changesOf 61 = .ok (.iinc 3 1, 3) := dw_at cX10_changesOf_k2 (p := 9) rfl (by decide +kernel)
theorem dcX10_changesOf_64 : decode cX10_changesOf 64 = .ok (.goto (-60), 3) := dw_at cX10_changesOf_k2 (p := 12) rfl (by decide +kernel)
theorem dcX10_changesOf_67 : decode cX10_changesOf 67 = .ok (.iload_n 2, 1) := dw_at cX10_changesOf_k2 (p := 15) rfl (by decide +kernel)
theorem dcX10_changesOf_68 : decode cX10_changesOf 68 = .ok (.ireturn, 1) := dw_at cX10_changesOf_k2 (p := 16) rfl (by decide +kernel)
def cm_X10_changesOf_0 (vl : Nat → Nat) (K : Nat) (go : Nat → Int32 → Int32 → Int32 → Int32 → Nat → Int32 → Int32 → ow_MS → Option (Int32 × ow_MS)) (x1 : Int32) (x2 : Int32) (x3 : Int32) (x4 : Int32) (r0 : Nat) (t0 : Int32) (t1 : Int32) (z : ow_MS) : Option (Int32 × ow_MS) :=
 go 1 x1 0 0 0 r0 0 0 z
def cm_X10_changesOf_1 (vl : Nat → Nat) (K : Nat) (go : Nat → Int32 → Int32 → Int32 → Int32 → Nat → Int32 → Int32 → ow_MS → Option (Int32 × ow_MS)) (x1 : Int32) (x2 : Int32) (x3 : Int32) (x4 : Int32) (r0 : Nat) (t0 : Int32) (t1 : Int32) (z : ow_MS) : Option (Int32 × ow_MS) :=
 rdF z (r0 + 1) fun v1 => (if v1 ≤ x3 then some (x2, z)
 else go 2 x1 x2 x3 (x3 + 1) r0 0 0 z)
def cm_X10_changesOf_2 (vl : Nat → Nat) (K : Nat) (go : Nat → Int32 → Int32 → Int32 → Int32 → Nat → Int32 → Int32 → ow_MS → Option (Int32 × ow_MS)) (x1 : Int32) (x2 : Int32) (x3 : Int32) (x4 : Int32) (r0 : Nat) (t0 : Int32) (t1 : Int32) (z : ow_MS) : Option (Int32 × ow_MS) :=
 rdF z (r0 + 1) fun v2 => (if v2 ≤ x4 then go 1 x1 x2 (x3 + 1) 0 r0 0 0 z
 else cs1 (ce_X5_image vl K x1 x3 z) fun v4 z3 => cs1 (ce_X5_image vl K x1 x4 z3) fun v6 z5 => (if v4 ≤ v6 then go 3 x1 x2 x3 x4 r0 0 x2 z5
 else go 3 x1 x2 x3 x4 r0 ((1 : Int32) <<< ((((4 * x3) + x4) : Int32) &&& 31)) x2 z5))
def cm_X10_changesOf_3 (vl : Nat → Nat) (K : Nat) (go : Nat → Int32 → Int32 → Int32 → Int32 → Nat → Int32 → Int32 → ow_MS → Option (Int32 × ow_MS)) (x1 : Int32) (x2 : Int32) (x3 : Int32) (x4 : Int32) (r0 : Nat) (t0 : Int32) (t1 : Int32) (z : ow_MS) : Option (Int32 × ow_MS) :=
 go 2 x1 (t1 ||| t0) x3 (x4 + 1) r0 0 0 z
def cb_X10_changesOf (vl : Nat → Nat) (K : Nat) (go : Nat → Int32 → Int32 → Int32 → Int32 → Nat → Int32 → Int32 → ow_MS → Option (Int32 × ow_MS)) (L : Nat) (x1 : Int32) (x2 : Int32) (x3 : Int32) (x4 : Int32) (r0 : Nat) (t0 : Int32) (t1 : Int32) (z : ow_MS) : Option (Int32 × ow_MS) := match L with
  | 0 => cm_X10_changesOf_0 vl K go x1 x2 x3 x4 r0 t0 t1 z
  | 1 => cm_X10_changesOf_1 vl K go x1 x2 x3 x4 r0 t0 t1 z
  | 2 => cm_X10_changesOf_2 vl K go x1 x2 x3 x4 r0 t0 t1 z
  | 3 => cm_X10_changesOf_3 vl K go x1 x2 x3 x4 r0 t0 t1 z
  | _ => none
def c_X10_changesOf (vl : Nat → Nat) (K : Nat) : Nat → Nat → Int32 → Int32 → Int32 → Int32 → Nat → Int32 → Int32 → ow_MS → Option (Int32 × ow_MS)
  | 0 => fun _ _ _ _ _ _ _ _ _ => none
  | k + 1 => cb_X10_changesOf vl K (c_X10_changesOf vl K k)
def ce_X10_changesOf (vl : Nat → Nat) (K : Nat) (r0 : Nat) (x1 : Int32) (z : ow_MS) : Option (Int32 × ow_MS) := c_X10_changesOf vl K K 0 x1 0 0 0 r0 0 0 z
abbrev wc_X10_changesOf : List Cond := .code yX10_changesOf cX10_changesOf 5 (some .int) :: wC
theorem cdd_X10_changesOf : yX10_changesOf.cls = RX10 ∧ yX10_changesOf.cls ≠ "java/lang/invoke/MethodHandle" ∧ yX10_changesOf.cls ≠ "java/lang/invoke/VarHandle" ∧ (parseMethodDescriptor yX10_changesOf.desc).map (fun d => d.parameters.length) = some 1 := by decide +kernel
set_option maxHeartbeats 4000000 in
set_option maxRecDepth 100000 in
theorem kc_X10_changesOf (l : Launch) (D : va_G) (q : Nat → ClassId) (vl u : Nat → Nat) (hU0 : tw_inj (cX vl) u) (K : Nat) (r0 : Nat) (x1 : Int32) (hr0 : cw_X10 r0) (z z1 : ow_MS) (r : Int32) (hq : ce_X10_changesOf vl K r0 x1 z = some (r, z1)) : Met l yX10_changesOf wc_X10_changesOf ({ frames := 1, cells := 0, slots := 0, locals := 21 } : Room) (va_Pc [.ref (u r0), .int x1] (cw_pre D q vl u z)) (va_Qi (fun x (_ : Unit) => x = r) (fun _ t => va_P D vwCl (uw (cX vl) q u z1) t.heap) (tw_A (cX vl) u)) 0 0 (tw_A (cX vl) u) := by
  refine Met.ofW (cc := cX10_changesOf) (maxL := 5) (ret := (some .int)) (by decide) rfl ?_
  intro p e s m args below meth c s₁ B hml hv
  obtain ⟨rfl, hP, hK⟩ := hv
  have hx := B.exec
  have hb := B.bytes
  have hr := B.returns
  have hts := atoms_spec (ws := wc_X10_changesOf) B.pre
  have hT : ∀ w ∈ wC, w.before ([.ref (u r0), .int x1] : List Value).toArray s = true := fun w h => hts w (List.mem_cons_of_mem _ h)
  have hown : s.vm.findClass RX10 = some m.cls := findClass_of_methodNamed B.named
  have hlocks := B.notSynchronized
  have hU : uw_inj (cX vl) u (tw_A (cX vl) u) := ⟨hU0, fun h hh => ⟨h, hh, rfl⟩⟩
  have hM : uw_M D vwCl (cX vl) q (tw_A (cX vl) u) s.heap u z s.heap [] := ⟨hP, va_S.rf⟩
  have hl := lv_entry ([.ref (u r0), .int x1]) (n := 5) (Nat.le_of_ble_eq_true rfl)
  rw [lg_entry_eq]
  generalize (lg_sl ([.ref (u r0), .int x1]) ++ List.replicate (5 - (lg_sl ([.ref (u r0), .int x1])).length) Slot.unset).toArray = ls at hl ⊢
  have hl : lv_has ls 5 [(0, .ref (u r0)), (1, .int x1)] := hl
  refine ow_named (fun QQ hQQ => ?_)
  generalize ([.ref (u r0), .int x1] : List Value).toArray = args at hts hT hQQ ⊢
  have key : ∀ k : Nat, (∀ (x1 : Int32) (x2 : Int32) (x3 : Int32) (x4 : Int32) (r0 : Nat) (t0 : Int32) (t1 : Int32) (z : ow_MS) (H : Heap) (locs : List Loc) (ls : Array Slot), cw_X10 r0 → uw_M D vwCl (cX vl) q (tw_A (cX vl) u) s.heap u z H locs → lv_has ls 5 [(0, .ref (u r0)), (1, .int x1)] → c_X10_changesOf vl K k 0 x1 x2 x3 x4 r0 t0 t1 z = some (r, z1) → W p l e ({ frames := 1, cells := 0, slots := 0, locals := 21 } : Room) s m args below meth c H locs 0 0 QQ (F0 m 0 ls [])) ∧ (∀ (x1 : Int32) (x2 : Int32) (x3 : Int32) (x4 : Int32) (r0 : Nat) (t0 : Int32) (t1 : Int32) (z : ow_MS) (H : Heap) (locs : List Loc) (ls : Array Slot), cw_X10 r0 → uw_M D vwCl (cX vl) q (tw_A (cX vl) u) s.heap u z H locs → lv_has ls 5 [(0, .ref (u r0)), (1, .int x1), (2, .int x2), (3, .int x3)] → c_X10_changesOf vl K k 1 x1 x2 x3 x4 r0 t0 t1 z = some (r, z1) → W p l e ({ frames := 1, cells := 0, slots := 0, locals := 21 } : Room) s m args below meth c H locs 0 0 QQ (F0 m 4 ls [])) ∧ (∀ (x1 : Int32) (x2 : Int32) (x3 : Int32) (x4 : Int32) (r0 : Nat) (t0 : Int32) (t1 : Int32) (z : ow_MS) (H : Heap) (locs : List Loc) (ls : Array Slot), cw_X10 r0 → uw_M D vwCl (cX vl) q (tw_A (cX vl) u) s.heap u z H locs → lv_has ls 5 [(0, .ref (u r0)), (1, .int x1), (2, .int x2), (3, .int x3), (4, .int x4)] → c_X10_changesOf vl K k 2 x1 x2 x3 x4 r0 t0 t1 z = some (r, z1) → W p l e ({ frames := 1, cells := 0, slots := 0, locals := 21 } : Room) s m args below meth c H locs 0 0 QQ (F0 m 17 ls [])) ∧ (∀ (x1 : Int32) (x2 : Int32) (x3 : Int32) (x4 : Int32) (r0 : Nat) (t0 : Int32) (t1 : Int32) (z : ow_MS) (H : Heap) (locs : List Loc) (ls : Array Slot), cw_X10 r0 → uw_M D vwCl (cX vl) q (tw_A (cX vl) u) s.heap u z H locs → lv_has ls 5 [(0, .ref (u r0)), (1, .int x1), (2, .int x2), (3, .int x3), (4, .int x4)] → c_X10_changesOf vl K k 3 x1 x2 x3 x4 r0 t0 t1 z = some (r, z1) → W p l e ({ frames := 1, cells := 0, slots := 0, locals := 21 } : Room) s m args below meth c H locs 0 0 QQ (F0 m 53 ls [.int t0, .int t1])) := by
    intro k
    induction k with
    | zero => exact ⟨fun _ _ _ _ _ _ _ _ _ _ _ _ _ _ hq => cw_no hq, fun _ _ _ _ _ _ _ _ _ _ _ _ _ _ hq => cw_no hq, fun _ _ _ _ _ _ _ _ _ _ _ _ _ _ hq => cw_no hq, fun _ _ _ _ _ _ _ _ _ _ _ _ _ _ hq => cw_no hq⟩
    | succ k ih =>
      obtain ⟨ih_0, ih_1, ih_2, ih_3⟩ := ih
      refine ⟨?_, ?_, ?_, ?_⟩
      · intro x1 x2 x3 x4 r0 t0 t1 z H locs ls hr0 hM hl hq
        have hq : cm_X10_changesOf_0 vl K (c_X10_changesOf vl K k) x1 x2 x3 x4 r0 t0 t1 z = some (r, z1) := hq
        unfold cm_X10_changesOf_0 at hq
        refine lv_iconst (v := 0) hx hb dcX10_changesOf_0 (by decide) ?_
        refine lv_istore_n (lv' := [(2, .int 0), (0, .ref (u r0)), (1, .int x1)]) hx hb dcX10_changesOf_1 rfl hl (by decide) rfl (fun ls hl => ?_)
        refine lv_iconst (v := 0) hx hb dcX10_changesOf_2 (by decide) ?_
        refine lv_istore_n (lv' := [(3, .int 0), (2, .int 0), (0, .ref (u r0)), (1, .int x1)]) hx hb dcX10_changesOf_3 rfl hl (by decide) rfl (fun ls hl => ?_)
        exact ih_1 x1 0 0 0 r0 0 0 z H locs ls hr0 hM (lv_sub hl [2, 3, 1, 0] rfl) hq
      · intro x1 x2 x3 x4 r0 t0 t1 z H locs ls hr0 hM hl hq
        have hq : cm_X10_changesOf_1 vl K (c_X10_changesOf vl K k) x1 x2 x3 x4 r0 t0 t1 z = some (r, z1) := hq
        unfold cm_X10_changesOf_1 at hq
        refine lv_iload_n hx hb dcX10_changesOf_4 rfl (lv_at hl 3 rfl) ?_
        refine lv_aload_n hx hb dcX10_changesOf_5 rfl (lv_at hl 0 rfl) ?_
        refine vgX10_38 hx hb hT hown hK hM hr0 hq dcX10_changesOf_6 (fun v1 hq => ?_)
        refine lv_icmp_ge (tgt := 67) hx hb dcX10_changesOf_9 (by decide) (fun hc => ?_) (fun hc => ?_)
        · have hq := tw_it hq hc
          refine lv_iload_n hx hb dcX10_changesOf_67 rfl (lv_at hl 2 rfl) ?_
          exact cw_iret hx hb hr hlocks hM hq hQQ dcX10_changesOf_68
        · have hq := tw_if hq hc
          refine lv_iload_n hx hb dcX10_changesOf_12 rfl (lv_at hl 3 rfl) ?_
          refine lv_iconst (v := 1) hx hb dcX10_changesOf_13 (by decide) ?_
          refine lv_iadd hx hb dcX10_changesOf_14 ?_
          refine lv_istore (lv' := [(4, .int (x3 + 1)), (0, .ref (u r0)), (1, .int x1), (2, .int x2), (3, .int x3)]) hx hb dcX10_changesOf_15 hl (by decide) rfl (fun ls hl => ?_)
          exact ih_2 x1 x2 x3 (x3 + 1) r0 0 0 z H locs ls hr0 hM (lv_sub hl [1, 2, 3, 4, 0] rfl) hq
      · intro x1 x2 x3 x4 r0 t0 t1 z H locs ls hr0 hM hl hq
        have hq : cm_X10_changesOf_2 vl K (c_X10_changesOf vl K k) x1 x2 x3 x4 r0 t0 t1 z = some (r, z1) := hq
        unfold cm_X10_changesOf_2 at hq
        refine lv_iload hx hb dcX10_changesOf_17 (lv_at hl 4 rfl) ?_
        refine lv_aload_n hx hb dcX10_changesOf_19 rfl (lv_at hl 0 rfl) ?_
        refine vgX10_38 hx hb hT hown hK hM hr0 hq dcX10_changesOf_20 (fun v2 hq => ?_)
        refine lv_icmp_ge (tgt := 61) hx hb dcX10_changesOf_23 (by decide) (fun hc => ?_) (fun hc => ?_)
        · have hq := tw_it hq hc
          refine lv_iinc (v := (x3 + 1)) (lv' := [(3, .int (x3 + 1)), (0, .ref (u r0)), (1, .int x1), (2, .int x2), (4, .int x4)]) hx hb dcX10_changesOf_61 hl (k := 3) rfl rfl (by decide) rfl (fun ls hl => ?_)
          refine lv_goto (tgt := 4) hx hb dcX10_changesOf_64 (by decide) ?_
          exact ih_1 x1 x2 (x3 + 1) 0 r0 0 0 z H locs ls hr0 hM (lv_sub hl [1, 2, 3, 0] rfl) hq
        · have hq := tw_if hq hc
          refine lv_iload_n hx hb dcX10_changesOf_26 rfl (lv_at hl 2 rfl) ?_
          refine lv_iload_n hx hb dcX10_changesOf_27 rfl (lv_at hl 1 rfl) ?_
          refine lv_iload_n hx hb dcX10_changesOf_28 rfl (lv_at hl 3 rfl) ?_
          obtain ⟨v4, z3, hcq, hq⟩ := tw_cl1 hq
          refine uw_cali hU hM (va_runS (As := [.int x1, .int x3]) (rest := [.int x2]) ⟨hx, hb, hml, hown, hts⟩ (kc_X5_image l D q vl u hU.1 K x1 x3 z z3 v4 hcq) (va_cwS 2 hts (tw_gS wC_good xq_713 xq_402 xq_403 xq_400) rfl rfl rfl cdd_X5_image ⟨(Nat.le_of_ble_eq_true rfl), (Nat.le_of_ble_eq_true rfl)⟩) (cw_preS hK hM) rfl rfl hl.1 rfl (lv_room (Nat.le_of_ble_eq_true rfl)) dcX10_changesOf_29 ⟨(Nat.le_of_ble_eq_true rfl), (Nat.le_of_ble_eq_true rfl)⟩) (fun H locs hM => ?_)
          refine lv_iload_n hx hb dcX10_changesOf_32 rfl (lv_at hl 1 rfl) ?_
          refine lv_iload hx hb dcX10_changesOf_33 (lv_at hl 4 rfl) ?_
          obtain ⟨v6, z5, hcq, hq⟩ := tw_cl1 hq
          refine uw_cali hU hM (va_runS (As := [.int x1, .int x4]) (rest := [.int v4, .int x2]) ⟨hx, hb, hml, hown, hts⟩ (kc_X5_image l D q vl u hU.1 K x1 x4 z3 z5 v6 hcq) (va_cwS 2 hts (tw_gS wC_good xq_713 xq_402 xq_403 xq_400) rfl rfl rfl cdd_X5_image ⟨(Nat.le_of_ble_eq_true rfl), (Nat.le_of_ble_eq_true rfl)⟩) (cw_preS hK hM) rfl rfl hl.1 rfl (lv_room (Nat.le_of_ble_eq_true rfl)) dcX10_changesOf_35 ⟨(Nat.le_of_ble_eq_true rfl), (Nat.le_of_ble_eq_true rfl)⟩) (fun H locs hM => ?_)
          refine lv_icmp_le (tgt := 52) hx hb dcX10_changesOf_38 (by decide) (fun hc => ?_) (fun hc => ?_)
          · have hq := tw_it hq hc
            refine lv_iconst (v := 0) hx hb dcX10_changesOf_52 (by decide) ?_
            exact ih_3 x1 x2 x3 x4 r0 0 x2 z5 H locs ls hr0 hM (lv_sub hl [0, 1, 2, 3, 4] rfl) hq
          · have hq := tw_if hq hc
            refine lv_iconst (v := 1) hx hb dcX10_changesOf_41 (by decide) ?_
            refine lv_iconst (v := 4) hx hb dcX10_changesOf_42 (by decide) ?_
            refine lv_iload_n hx hb dcX10_changesOf_43 rfl (lv_at hl 3 rfl) ?_
            refine lv_imul hx hb dcX10_changesOf_44 ?_
            refine lv_iload hx hb dcX10_changesOf_45 (lv_at hl 4 rfl) ?_
            refine lv_iadd hx hb dcX10_changesOf_47 ?_
            refine lv_ishl hx hb dcX10_changesOf_48 ?_
            refine lv_goto (tgt := 53) hx hb dcX10_changesOf_49 (by decide) ?_
            exact ih_3 x1 x2 x3 x4 r0 ((1 : Int32) <<< ((((4 * x3) + x4) : Int32) &&& 31)) x2 z5 H locs ls hr0 hM (lv_sub hl [0, 1, 2, 3, 4] rfl) hq
      · intro x1 x2 x3 x4 r0 t0 t1 z H locs ls hr0 hM hl hq
        have hq : cm_X10_changesOf_3 vl K (c_X10_changesOf vl K k) x1 x2 x3 x4 r0 t0 t1 z = some (r, z1) := hq
        unfold cm_X10_changesOf_3 at hq
        refine lv_ior hx hb dcX10_changesOf_53 ?_
        refine lv_istore_n (lv' := [(2, .int (t1 ||| t0)), (0, .ref (u r0)), (1, .int x1), (3, .int x3), (4, .int x4)]) hx hb dcX10_changesOf_54 rfl hl (by decide) rfl (fun ls hl => ?_)
        refine lv_iinc (v := (x4 + 1)) (lv' := [(4, .int (x4 + 1)), (2, .int (t1 ||| t0)), (0, .ref (u r0)), (1, .int x1), (3, .int x3)]) hx hb dcX10_changesOf_55 hl (k := 4) rfl rfl (by decide) rfl (fun ls hl => ?_)
        refine lv_goto (tgt := 17) hx hb dcX10_changesOf_58 (by decide) ?_
        exact ih_2 x1 (t1 ||| t0) x3 (x4 + 1) r0 0 0 z H locs ls hr0 hM (lv_sub hl [2, 3, 1, 4, 0] rfl) hq
  exact (key K).1 x1 0 0 0 r0 0 0 z s.heap [] ls hr0 hM (lv_sub hl [0, 1] rfl) hq
theorem dcX10_listSimples_0 : decode cX10_listSimples 0 = .ok (.aload_n 0, 1) := dw_at cX10_listSimples_k0 (p := 0) rfl (by decide +kernel)
theorem dcX10_listSimples_1 : decode cX10_listSimples 1 = .ok (.iconst 0, 1) := dw_at cX10_listSimples_k0 (p := 1) rfl (by decide +kernel)
theorem dcX10_listSimples_2 : decode cX10_listSimples 2 = .ok (.putfield 59, 3) := dw_at cX10_listSimples_k0 (p := 2) rfl (by decide +kernel)
theorem dcX10_listSimples_5 : decode cX10_listSimples 5 = .ok (.iconst 1, 1) := dw_at cX10_listSimples_k0 (p := 5) rfl (by decide +kernel)
theorem dcX10_listSimples_6 : decode cX10_listSimples 6 = .ok (.istore_n 1, 1) := dw_at cX10_listSimples_k0 (p := 6) rfl (by decide +kernel)
theorem dcX10_listSimples_7 : decode cX10_listSimples 7 = .ok (.iload_n 1, 1) := dw_at cX10_listSimples_k0 (p := 7) rfl (by decide +kernel)
theorem dcX10_listSimples_8 : decode cX10_listSimples 8 = .ok (.bipush 6, 2) := dw_at cX10_listSimples_k0 (p := 8) rfl (by decide +kernel)
theorem dcX10_listSimples_10 : decode cX10_listSimples 10 = .ok (.if_icmp .gt 164, 3) := dw_at cX10_listSimples_k0 (p := 10) rfl (by decide +kernel)
theorem dcX10_listSimples_13 : decode cX10_listSimples 13 = .ok (.iconst 0, 1) := dw_at cX10_listSimples_k0 (p := 13) rfl (by decide +kernel)
theorem dcX10_listSimples_14 : decode cX10_listSimples 14 = .ok (.istore_n 2, 1) := dw_at cX10_listSimples_k0 (p := 14) rfl (by decide +kernel)
theorem dcX10_listSimples_15 : decode cX10_listSimples 15 = .ok (.iload_n 2, 1) := dw_at cX10_listSimples_k0 (p := 15) rfl (by decide +kernel)
theorem dcX10_listSimples_16 : decode cX10_listSimples 16 = .ok (.iconst 1, 1) := dw_at cX10_listSimples_k0 (p := 16) rfl (by decide +kernel)
theorem dcX10_listSimples_17 : decode cX10_listSimples 17 = .ok (.iconst 2, 1) := dw_at cX10_listSimples_k0 (p := 17) rfl (by decide +kernel)
theorem dcX10_listSimples_18 : decode cX10_listSimples 18 = .ok (.aload_n 0, 1) := dw_at cX10_listSimples_k0 (p := 18) rfl (by decide +kernel)
theorem dcX10_listSimples_19 : decode cX10_listSimples 19 = .ok (.getfield 38, 3) := dw_at cX10_listSimples_k0 (p := 19) rfl (by decide +kernel)
theorem dcX10_listSimples_22 : decode cX10_listSimples 22 = .ok (.imul, 1) := dw_at cX10_listSimples_k0 (p := 22) rfl (by decide +kernel)
theorem dcX10_listSimples_23 : decode cX10_listSimples 23 = .ok (.ishl, 1) := dw_at cX10_listSimples_k0 (p := 23) rfl (by decide +kernel)
theorem dcX10_listSimples_24 : decode cX10_listSimples 24 = .ok (.if_icmp .ge 144, 3) := dw_at cX10_listSimples_k1 (p := 0) rfl (by decide +kernel)
theorem dcX10_listSimples_27 : decode cX10_listSimples 27 = .ok (.iconst 0, 1) := dw_at cX10_listSimples_k1 (p := 3) rfl (by decide +kernel)
theorem dcX10_listSimples_28 : decode cX10_listSimples 28 = .ok (.istore_n 3, 1) := dw_at cX10_listSimples_k1 (p := 4) rfl (by decide +kernel)
theorem dcX10_listSimples_29 : decode cX10_listSimples 29 = .ok (.iconst 0, 1) := dw_at cX10_listSimples_k1 (p := 5) rfl (by decide +kernel)
theorem dcX10_listSimples_30 : decode cX10_listSimples 30 = .ok (.istore 4, 2) := dw_at cX10_listSimples_k1 (p := 6) rfl (by decide +kernel)
theorem dcX10_listSimples_32 : decode cX10_listSimples 32 = .ok (.iconst 0, 1) := dw_at cX10_listSimples_k1 (p := 8) rfl (by decide +kernel)
theorem dcX10_listSimples_33 : decode cX10_listSimples 33 = .ok (.istore 5, 2) := dw_at cX10_listSimples_k1 (p := 9) rfl (by decide +kernel)
theorem dcX10_listSimples_35 : decode cX10_listSimples 35 = .ok (.iload 5, 2) := dw_at cX10_listSimples_k1 (p := 11) rfl (by decide +kernel)
theorem dcX10_listSimples_37 : decode cX10_listSimples 37 = .ok (.aload_n 0, 1) := dw_at cX10_listSimples_k1 (p := 13) rfl (by decide +kernel)
theorem dcX10_listSimples_38 : decode cX10_listSimples 38 = .ok (.getfield 38, 3) := dw_at cX10_listSimples_k1 (p := 14) rfl (by decide +kernel)
theorem dcX10_listSimples_41 : decode cX10_listSimples 41 = .ok (.if_icmp .ge 38, 3) := dw_at cX10_listSimples_k1 (p := 17) rfl (by decide +kernel)
theorem dcX10_listSimples_44 : decode cX10_listSimples 44 = .ok (.iload_n 2, 1) := dw_at cX10_listSimples_k1 (p := 20) rfl (by decide +kernel)
theorem dcX10_listSimples_45 : decode cX10_listSimples 45 = .ok (.iconst 2, 1) := dw_at cX10_listSimples_k1 (p := 21) rfl (by decide +kernel)
theorem dcX10_listSimples_46 : decode cX10_listSimples 46 = .ok (.iload 5, 2) := dw_at cX10_listSimples_k1 (p := 22) rfl (by decide +kernel)
theorem dcX10_listSimples_48 : decode cX10_listSimples 48 = .ok (.imul, 1) := dw_at cX10_listSimples_k2 (p := 0) rfl (by decide +kernel)
theorem dcX10_listSimples_49 : decode cX10_listSimples 49 = .ok (.ishr, 1) := dw_at cX10_listSimples_k2 (p := 1) rfl (by decide +kernel)
theorem dcX10_listSimples_50 : decode cX10_listSimples 50 = .ok (.iconst 3, 1) := dw_at cX10_listSimples_k2 (p := 2) rfl (by decide +kernel)
theorem dcX10_listSimples_51 : decode cX10_listSimples 51 = .ok (.iand, 1) := dw_at cX10_listSimples_k2 (p := 3) rfl (by decide +kernel)
theorem dcX10_listSimples_52 : decode cX10_listSimples 52 = .ok (.istore 6, 2) := dw_at cX10_listSimples_k2 (p := 4) rfl (by decide +kernel)
theorem dcX10_listSimples_54 : decode cX10_listSimples 54 = .ok (.iload_n 3, 1) := dw_at cX10_listSimples_k2 (p := 6) rfl (by decide +kernel)
theorem dcX10_listSimples_55 : decode cX10_listSimples 55 = .ok (.iload 6, 2) := dw_at cX10_listSimples_k2 (p := 7) rfl (by decide +kernel)
theorem dcX10_listSimples_57 : decode cX10_listSimples 57 = .ok (.iconst 4, 1) := dw_at cX10_listSimples_k2 (p := 9) rfl (by decide +kernel)
theorem dcX10_listSimples_58 : decode cX10_listSimples 58 = .ok (.iload 5, 2) := dw_at cX10_listSimples_k2 (p := 10) rfl (by decide +kernel)
theorem dcX10_listSimples_60 : decode cX10_listSimples 60 = .ok (.imul, 1) := dw_at cX10_listSimples_k2 (p := 12) rfl (by decide +kernel)
theorem dcX10_listSimples_61 : decode cX10_listSimples 61 = .ok (.ishl, 1) := dw_at cX10_listSimples_k2 (p := 13) rfl (by decide +kernel)
theorem dcX10_listSimples_62 : decode cX10_listSimples 62 = .ok (.ior, 1) := dw_at cX10_listSimples_k2 (p := 14) rfl (by decide +kernel)
theorem dcX10_listSimples_63 : decode cX10_listSimples 63 = .ok (.istore_n 3, 1) := dw_at cX10_listSimples_k2 (p := 15) rfl (by decide +kernel)
theorem dcX10_listSimples_64 : decode cX10_listSimples 64 = .ok (.iload 4, 2) := dw_at cX10_listSimples_k2 (p := 16) rfl (by decide +kernel)
theorem dcX10_listSimples_66 : decode cX10_listSimples 66 = .ok (.iconst 1, 1) := dw_at cX10_listSimples_k2 (p := 18) rfl (by decide +kernel)
theorem dcX10_listSimples_67 : decode cX10_listSimples 67 = .ok (.iload 6, 2) := dw_at cX10_listSimples_k2 (p := 19) rfl (by decide +kernel)
theorem dcX10_listSimples_69 : decode cX10_listSimples 69 = .ok (.ishl, 1) := dw_at cX10_listSimples_k2 (p := 21) rfl (by decide +kernel)
theorem dcX10_listSimples_70 : decode cX10_listSimples 70 = .ok (.ior, 1) := dw_at cX10_listSimples_k2 (p := 22) rfl (by decide +kernel)
theorem dcX10_listSimples_71 : decode cX10_listSimples 71 = .ok (.istore 4, 2) := dw_at cX10_listSimples_k2 (p := 23) rfl (by decide +kernel)
theorem dcX10_listSimples_73 : decode cX10_listSimples 73 = .ok (.iinc 5 1, 3) := dw_at cX10_listSimples_k3 (p := 0) rfl (by decide +kernel)
theorem dcX10_listSimples_76 : decode cX10_listSimples 76 = .ok (.goto (-41), 3) := dw_at cX10_listSimples_k3 (p := 3) rfl (by decide +kernel)
theorem dcX10_listSimples_79 : decode cX10_listSimples 79 = .ok (.iload 4, 2) := dw_at cX10_listSimples_k3 (p := 6) rfl (by decide +kernel)
theorem dcX10_listSimples_81 : decode cX10_listSimples 81 = .ok (.iconst 1, 1) := dw_at cX10_listSimples_k3 (p := 8) rfl (by decide +kernel)
theorem dcX10_listSimples_82 : decode cX10_listSimples 82 = .ok (.aload_n 0, 1) := dw_at cX10_listSimples_k3 (p := 9) rfl (by decide +kernel)
theorem dcX10_listSimples_83 : decode cX10_listSimples 83 = .ok (.getfield 38, 3) := dw_at cX10_listSimples_k3 (p := 10) rfl (by decide +kernel)
theorem dcX10_listSimples_86 : decode cX10_listSimples 86 = .ok (.ishl, 1) := dw_at cX10_listSimples_k3 (p := 13) rfl (by decide +kernel)
theorem dcX10_listSimples_87 : decode cX10_listSimples 87 = .ok (.iconst 1, 1) := dw_at cX10_listSimples_k3 (p := 14) rfl (by decide +kernel)
theorem dcX10_listSimples_88 : decode cX10_listSimples 88 = .ok (.isub, 1) := dw_at cX10_listSimples_k3 (p := 15) rfl (by decide +kernel)
theorem dcX10_listSimples_89 : decode cX10_listSimples 89 = .ok (.if_icmp .ne 19, 3) := dw_at cX10_listSimples_k3 (p := 16) rfl (by decide +kernel)
theorem dcX10_listSimples_92 : decode cX10_listSimples 92 = .ok (.aload_n 0, 1) := dw_at cX10_listSimples_k3 (p := 19) rfl (by decide +kernel)
theorem dcX10_listSimples_93 : decode cX10_listSimples 93 = .ok (.getfield 59, 3) := dw_at cX10_listSimples_k3 (p := 20) rfl (by decide +kernel)
theorem dcX10_listSimples_96 : decode cX10_listSimples 96 = .ok (.aload_n 0, 1) := dw_at cX10_listSimples_k3 (p := 23) rfl (by decide +kernel)
theorem dcX10_listSimples_97 : decode cX10_listSimples 97 = .ok (.getfield 25, 3) := dw_at cX10_listSimples_k4 (p := 0) rfl (by decide +kernel)
theorem dcX10_listSimples_100 : decode cX10_listSimples 100 = .ok (.arraylength, 1) := dw_at cX10_listSimples_k4 (p := 3) rfl (by decide +kernel)
theorem dcX10_listSimples_101 : decode cX10_listSimples 101 = .ok (.if_icmp .ge 7, 3) := dw_at cX10_listSimples_k4 (p := 4) rfl (by decide +kernel)
theorem dcX10_listSimples_104 : decode cX10_listSimples 104 = .ok (.iconst 1, 1) := dw_at cX10_listSimples_k4 (p := 7) rfl (by decide +kernel)
theorem dcX10_listSimples_105 : decode cX10_listSimples 105 = .ok (.goto 4, 3) := dw_at cX10_listSimples_k4 (p := 8) rfl (by decide +kernel)
theorem dcX10_listSimples_108 : decode cX10_listSimples 108 = .ok (.iconst 0, 1) := dw_at cX10_listSimples_k4 (p := 11) rfl (by decide +kernel)
theorem dcX10_listSimples_109 : decode cX10_listSimples 109 = .ok (.istore 5, 2) := dw_at cX10_listSimples_k4 (p := 12) rfl (by decide +kernel)
theorem dcX10_listSimples_111 : decode cX10_listSimples 111 = .ok (.iload 5, 2) := dw_at cX10_listSimples_k4 (p := 14) rfl (by decide +kernel)
theorem dcX10_listSimples_113 : decode cX10_listSimples 113 = .ok (.ifCond .eq 49, 3) := dw_at cX10_listSimples_k4 (p := 16) rfl (by decide +kernel)
theorem dcX10_listSimples_116 : decode cX10_listSimples 116 = .ok (.aload_n 0, 1) := dw_at cX10_listSimples_k4 (p := 19) rfl (by decide +kernel)
theorem dcX10_listSimples_117 : decode cX10_listSimples 117 = .ok (.iload_n 3, 1) := dw_at cX10_listSimples_k4 (p := 20) rfl (by decide +kernel)
theorem dcX10_listSimples_118 : decode cX10_listSimples 118 = .ok (.invokevirtual 62, 3) := dw_at cX10_listSimples_k4 (p := 21) rfl (by decide +kernel)
theorem dcX10_listSimples_121 : decode cX10_listSimples 121 = .ok (.invokestatic 66, 3) := dw_at cX10_listSimples_k5 (p := 0) rfl (by decide +kernel)
theorem dcX10_listSimples_124 : decode cX10_listSimples 124 = .ok (.iload_n 1, 1) := dw_at cX10_listSimples_k5 (p := 3) rfl (by decide +kernel)
theorem dcX10_listSimples_125 : decode cX10_listSimples 125 = .ok (.if_icmp .ne 37, 3) := dw_at cX10_listSimples_k5 (p := 4) rfl (by decide +kernel)
theorem dcX10_listSimples_128 : decode cX10_listSimples 128 = .ok (.aload_n 0, 1) := dw_at cX10_listSimples_k5 (p := 7) rfl (by decide +kernel)
theorem dcX10_listSimples_129 : decode cX10_listSimples 129 = .ok (.getfield 25, 3) := dw_at cX10_listSimples_k5 (p := 8) rfl (by decide +kernel)
theorem dcX10_listSimples_132 : decode cX10_listSimples 132 = .ok (.aload_n 0, 1) := dw_at cX10_listSimples_k5 (p := 11) rfl (by decide +kernel)
theorem dcX10_listSimples_133 : decode cX10_listSimples 133 = .ok (.getfield 59, 3) := dw_at cX10_listSimples_k5 (p := 12) rfl (by decide +kernel)
theorem dcX10_listSimples_136 : decode cX10_listSimples 136 = .ok (.iload_n 3, 1) := dw_at cX10_listSimples_k5 (p := 15) rfl (by decide +kernel)
theorem dcX10_listSimples_137 : decode cX10_listSimples 137 = .ok (.iastore, 1) := dw_at cX10_listSimples_k5 (p := 16) rfl (by decide +kernel)
theorem dcX10_listSimples_138 : decode cX10_listSimples 138 = .ok (.aload_n 0, 1) := dw_at cX10_listSimples_k5 (p := 17) rfl (by decide +kernel)
theorem dcX10_listSimples_139 : decode cX10_listSimples 139 = .ok (.getfield 28, 3) := dw_at cX10_listSimples_k5 (p := 18) rfl (by decide +kernel)
theorem dcX10_listSimples_142 : decode cX10_listSimples 142 = .ok (.aload_n 0, 1) := dw_at cX10_listSimples_k5 (p := 21) rfl (by decide +kernel)
theorem dcX10_listSimples_143 : decode cX10_listSimples 143 = .ok (.getfield 59, 3) := dw_at cX10_listSimples_k5 (p := 22) rfl (by decide +kernel)
theorem dcX10_listSimples_146 : decode cX10_listSimples 146 = .ok (.aload_n 0, 1) := dw_at cX10_listSimples_k6 (p := 0) rfl (by decide +kernel)
theorem dcX10_listSimples_147 : decode cX10_listSimples 147 = .ok (.iload_n 3, 1) := dw_at cX10_listSimples_k6 (p := 1) rfl (by decide +kernel)
theorem dcX10_listSimples_148 : decode cX10_listSimples 148 = .ok (.invokevirtual 62, 3) := dw_at cX10_listSimples_k6 (p := 2) rfl (by decide +kernel)
theorem dcX10_listSimples_151 : decode cX10_listSimples 151 = .ok (.iastore, 1) := dw_at cX10_listSimples_k6 (p := 5) rfl (by decide +kernel)
theorem dcX10_listSimples_152 : decode cX10_listSimples 152 = .ok (.aload_n 0, 1) := dw_at cX10_listSimples_k6 (p := 6) rfl (by decide +kernel)
theorem dcX10_listSimples_153 : decode cX10_listSimples 153 = .ok (.dup, 1) := dw_at cX10_listSimples_k6 (p := 7) rfl (by decide +kernel)
theorem dcX10_listSimples_154 : decode cX10_listSimples 154 = .ok (.getfield 59, 3) := dw_at cX10_listSimples_k6 (p := 8) rfl (by decide +kernel)
theorem dcX10_listSimples_157 : decode cX10_listSimples 157 = .ok (.iconst 1, 1) := dw_at cX10_listSimples_k6 (p := 11) rfl (by decide +kernel)
theorem dcX10_listSimples_158 : decode cX10_listSimples 158 = .ok (.iadd, 1) := dw_at cX10_listSimples_k6 (p := 12) rfl (by decide +kernel)
theorem dcX10_listSimples_159 : decode cX10_listSimples 159 = .ok (.putfield 59, 3) := dw_at cX10_listSimples_k6 (p := 13) rfl (by decide +kernel)
theorem dcX10_listSimples_162 : decode cX10_listSimples 162 = .ok (.iinc 2 1, 3) := dw_at cX10_listSimples_k6 (p := 16) rfl (by decide +kernel)
theorem dcX10_listSimples_165 : decode cX10_listSimples 165 = .ok (.goto (-150), 3) := dw_at cX10_listSimples_k6 (p := 19) rfl (by decide +kernel)
theorem dcX10_listSimples_168 : decode cX10_listSimples 168 = .ok (.iinc 1 1, 3) := dw_at cX10_listSimples_k6 (p := 22) rfl (by decide +kernel)
theorem dcX10_listSimples_171 : decode cX10_listSimples 171 = .ok (.goto (-164), 3) := dw_at cX10_listSimples_k6 (p := 25) rfl (by decide +kernel)
theorem dcX10_listSimples_174 : decode cX10_listSimples 174 = .ok (.return_, 1) := dw_at cX10_listSimples_k6 (p := 28) rfl (by decide +kernel)
def cm_X10_listSimples_0 (vl : Nat → Nat) (K : Nat) (go : Nat → Int32 → Int32 → Int32 → Int32 → Int32 → Nat → Int32 → ow_MS → Option ow_MS) (x1 : Int32) (x2 : Int32) (x3 : Int32) (x4 : Int32) (x5 : Int32) (r0 : Nat) (t0 : Int32) (z : ow_MS) : Option ow_MS :=
 wrF z (r0 + 11) 0 fun z1 => go 1 1 0 0 0 0 r0 0 z1
def cm_X10_listSimples_1 (vl : Nat → Nat) (K : Nat) (go : Nat → Int32 → Int32 → Int32 → Int32 → Int32 → Nat → Int32 → ow_MS → Option ow_MS) (x1 : Int32) (x2 : Int32) (x3 : Int32) (x4 : Int32) (x5 : Int32) (r0 : Nat) (t0 : Int32) (z : ow_MS) : Option ow_MS :=
 (if 6 < x1 then some z
 else go 2 x1 0 0 0 0 r0 0 z)
def cm_X10_listSimples_2 (vl : Nat → Nat) (K : Nat) (go : Nat → Int32 → Int32 → Int32 → Int32 → Int32 → Nat → Int32 → ow_MS → Option ow_MS) (x1 : Int32) (x2 : Int32) (x3 : Int32) (x4 : Int32) (x5 : Int32) (r0 : Nat) (t0 : Int32) (z : ow_MS) : Option ow_MS :=
 rdF z (r0 + 1) fun v2 => (if ((1 : Int32) <<< (((2 * v2) : Int32) &&& 31)) ≤ x2 then go 1 (x1 + 1) 0 0 0 0 r0 0 z
 else go 3 x1 x2 0 0 0 r0 0 z)
def cm_X10_listSimples_3 (vl : Nat → Nat) (K : Nat) (go : Nat → Int32 → Int32 → Int32 → Int32 → Int32 → Nat → Int32 → ow_MS → Option ow_MS) (x1 : Int32) (x2 : Int32) (x3 : Int32) (x4 : Int32) (x5 : Int32) (r0 : Nat) (t0 : Int32) (z : ow_MS) : Option ow_MS :=
 rdF z (r0 + 1) fun v3 => (if v3 ≤ x5 then rdF z (r0 + 1) fun v4 => (if x4 = (((1 : Int32) <<< ((v4 : Int32) &&& 31)) - 1) then rdF z (r0 + 11) fun v5 => (if (Int32.ofNat (uw_len (cX vl) z (r0 + 8))) ≤ v5 then go 4 x1 x2 x3 x4 x5 r0 0 z
 else go 5 x1 x2 x3 x4 x5 r0 1 z)
 else go 4 x1 x2 x3 x4 x5 r0 0 z)
 else go 3 x1 x2 (x3 ||| (((((x2 : Int32) >>> (((2 * x5) : Int32) &&& 31)) &&& 3) : Int32) <<< (((4 * x5) : Int32) &&& 31))) (x4 ||| ((1 : Int32) <<< (((((x2 : Int32) >>> (((2 * x5) : Int32) &&& 31)) &&& 3) : Int32) &&& 31))) (x5 + 1) r0 0 z)
def cm_X10_listSimples_4 (vl : Nat → Nat) (K : Nat) (go : Nat → Int32 → Int32 → Int32 → Int32 → Int32 → Nat → Int32 → ow_MS → Option ow_MS) (x1 : Int32) (x2 : Int32) (x3 : Int32) (x4 : Int32) (x5 : Int32) (r0 : Nat) (t0 : Int32) (z : ow_MS) : Option ow_MS :=
 go 5 x1 x2 x3 x4 x5 r0 0 z
def cm_X10_listSimples_5 (vl : Nat → Nat) (K : Nat) (go : Nat → Int32 → Int32 → Int32 → Int32 → Int32 → Nat → Int32 → ow_MS → Option ow_MS) (x1 : Int32) (x2 : Int32) (x3 : Int32) (x4 : Int32) (x5 : Int32) (r0 : Nat) (t0 : Int32) (z : ow_MS) : Option ow_MS :=
 (if t0 = 0 then go 6 x1 x2 x3 x4 t0 r0 0 z
 else cs1 (ce_X10_changesOf vl K r0 x3 z) fun v7 z6 => (if (ow_bc v7) = x1 then rdF z6 (r0 + 11) fun v9 => ctI (cX vl) z6 (r0 + 8) v9 x3 fun z10 => rdF z10 (r0 + 11) fun v11 => cs1 (ce_X10_changesOf vl K r0 x3 z10) fun v13 z12 => ctI (cX vl) z12 (r0 + 9) v11 v13 fun z14 => rdF z14 (r0 + 11) fun v15 => wrF z14 (r0 + 11) (v15 + 1) fun z16 => go 6 x1 x2 x3 x4 t0 r0 0 z16
 else go 6 x1 x2 x3 x4 t0 r0 0 z6))
def cm_X10_listSimples_6 (vl : Nat → Nat) (K : Nat) (go : Nat → Int32 → Int32 → Int32 → Int32 → Int32 → Nat → Int32 → ow_MS → Option ow_MS) (x1 : Int32) (x2 : Int32) (x3 : Int32) (x4 : Int32) (x5 : Int32) (r0 : Nat) (t0 : Int32) (z : ow_MS) : Option ow_MS :=
 go 2 x1 (x2 + 1) 0 0 0 r0 0 z
def cb_X10_listSimples (vl : Nat → Nat) (K : Nat) (go : Nat → Int32 → Int32 → Int32 → Int32 → Int32 → Nat → Int32 → ow_MS → Option ow_MS) (L : Nat) (x1 : Int32) (x2 : Int32) (x3 : Int32) (x4 : Int32) (x5 : Int32) (r0 : Nat) (t0 : Int32) (z : ow_MS) : Option ow_MS := match L with
  | 0 => cm_X10_listSimples_0 vl K go x1 x2 x3 x4 x5 r0 t0 z
  | 1 => cm_X10_listSimples_1 vl K go x1 x2 x3 x4 x5 r0 t0 z
  | 2 => cm_X10_listSimples_2 vl K go x1 x2 x3 x4 x5 r0 t0 z
  | 3 => cm_X10_listSimples_3 vl K go x1 x2 x3 x4 x5 r0 t0 z
  | 4 => cm_X10_listSimples_4 vl K go x1 x2 x3 x4 x5 r0 t0 z
  | 5 => cm_X10_listSimples_5 vl K go x1 x2 x3 x4 x5 r0 t0 z
  | 6 => cm_X10_listSimples_6 vl K go x1 x2 x3 x4 x5 r0 t0 z
  | _ => none
def c_X10_listSimples (vl : Nat → Nat) (K : Nat) : Nat → Nat → Int32 → Int32 → Int32 → Int32 → Int32 → Nat → Int32 → ow_MS → Option ow_MS
  | 0 => fun _ _ _ _ _ _ _ _ _ => none
  | k + 1 => cb_X10_listSimples vl K (c_X10_listSimples vl K k)
def ce_X10_listSimples (vl : Nat → Nat) (K : Nat) (r0 : Nat) (z : ow_MS) : Option ow_MS := c_X10_listSimples vl K K 0 0 0 0 0 0 r0 0 z
abbrev wc_X10_listSimples : List Cond := .code yX10_listSimples cX10_listSimples 7 none :: wC
theorem cdd_X10_listSimples : yX10_listSimples.cls = RX10 ∧ yX10_listSimples.cls ≠ "java/lang/invoke/MethodHandle" ∧ yX10_listSimples.cls ≠ "java/lang/invoke/VarHandle" ∧ (parseMethodDescriptor yX10_listSimples.desc).map (fun d => d.parameters.length) = some 0 := by decide +kernel
set_option maxHeartbeats 4000000 in
set_option maxRecDepth 100000 in
theorem kc_X10_listSimples (l : Launch) (D : va_G) (q : Nat → ClassId) (vl u : Nat → Nat) (hU0 : tw_inj (cX vl) u) (K : Nat) (r0 : Nat) (hr0 : cw_X10 r0) (z z1 : ow_MS) (hq : ce_X10_listSimples vl K r0 z = some z1) : Met l yX10_listSimples wc_X10_listSimples ({ frames := 2, cells := 0, slots := 0, locals := 45 } : Room) (va_Pc [.ref (u r0)] (cw_pre D q vl u z)) (va_Qv (fun (_ : Unit) => True) (fun _ t => va_P D vwCl (uw (cX vl) q u z1) t.heap) (tw_A (cX vl) u)) 0 0 (tw_A (cX vl) u) := by
  refine Met.ofW (cc := cX10_listSimples) (maxL := 7) (ret := none) (by decide) rfl ?_
  intro p e s m args below meth c s₁ B hml hv
  obtain ⟨rfl, hP, hK⟩ := hv
  have hx := B.exec
  have hb := B.bytes
  have hr := B.returns
  have hts := atoms_spec (ws := wc_X10_listSimples) B.pre
  have hT : ∀ w ∈ wC, w.before ([.ref (u r0)] : List Value).toArray s = true := fun w h => hts w (List.mem_cons_of_mem _ h)
  have hown : s.vm.findClass RX10 = some m.cls := findClass_of_methodNamed B.named
  have hlocks := B.notSynchronized
  have hU : uw_inj (cX vl) u (tw_A (cX vl) u) := ⟨hU0, fun h hh => ⟨h, hh, rfl⟩⟩
  have hM : uw_M D vwCl (cX vl) q (tw_A (cX vl) u) s.heap u z s.heap [] := ⟨hP, va_S.rf⟩
  have hl := lv_entry ([.ref (u r0)]) (n := 7) (Nat.le_of_ble_eq_true rfl)
  rw [lg_entry_eq]
  generalize (lg_sl ([.ref (u r0)]) ++ List.replicate (7 - (lg_sl ([.ref (u r0)])).length) Slot.unset).toArray = ls at hl ⊢
  have hl : lv_has ls 7 [(0, .ref (u r0))] := hl
  refine ow_named (fun QQ hQQ => ?_)
  generalize ([.ref (u r0)] : List Value).toArray = args at hts hT hQQ ⊢
  have key : ∀ k : Nat, (∀ (x1 : Int32) (x2 : Int32) (x3 : Int32) (x4 : Int32) (x5 : Int32) (r0 : Nat) (t0 : Int32) (z : ow_MS) (H : Heap) (locs : List Loc) (ls : Array Slot), cw_X10 r0 → uw_M D vwCl (cX vl) q (tw_A (cX vl) u) s.heap u z H locs → lv_has ls 7 [(0, .ref (u r0))] → c_X10_listSimples vl K k 0 x1 x2 x3 x4 x5 r0 t0 z = some z1 → W p l e ({ frames := 2, cells := 0, slots := 0, locals := 45 } : Room) s m args below meth c H locs 0 0 QQ (F0 m 0 ls [])) ∧ (∀ (x1 : Int32) (x2 : Int32) (x3 : Int32) (x4 : Int32) (x5 : Int32) (r0 : Nat) (t0 : Int32) (z : ow_MS) (H : Heap) (locs : List Loc) (ls : Array Slot), cw_X10 r0 → uw_M D vwCl (cX vl) q (tw_A (cX vl) u) s.heap u z H locs → lv_has ls 7 [(0, .ref (u r0)), (1, .int x1)] → c_X10_listSimples vl K k 1 x1 x2 x3 x4 x5 r0 t0 z = some z1 → W p l e ({ frames := 2, cells := 0, slots := 0, locals := 45 } : Room) s m args below meth c H locs 0 0 QQ (F0 m 7 ls [])) ∧ (∀ (x1 : Int32) (x2 : Int32) (x3 : Int32) (x4 : Int32) (x5 : Int32) (r0 : Nat) (t0 : Int32) (z : ow_MS) (H : Heap) (locs : List Loc) (ls : Array Slot), cw_X10 r0 → uw_M D vwCl (cX vl) q (tw_A (cX vl) u) s.heap u z H locs → lv_has ls 7 [(0, .ref (u r0)), (1, .int x1), (2, .int x2)] → c_X10_listSimples vl K k 2 x1 x2 x3 x4 x5 r0 t0 z = some z1 → W p l e ({ frames := 2, cells := 0, slots := 0, locals := 45 } : Room) s m args below meth c H locs 0 0 QQ (F0 m 15 ls [])) ∧ (∀ (x1 : Int32) (x2 : Int32) (x3 : Int32) (x4 : Int32) (x5 : Int32) (r0 : Nat) (t0 : Int32) (z : ow_MS) (H : Heap) (locs : List Loc) (ls : Array Slot), cw_X10 r0 → uw_M D vwCl (cX vl) q (tw_A (cX vl) u) s.heap u z H locs → lv_has ls 7 [(0, .ref (u r0)), (1, .int x1), (2, .int x2), (3, .int x3), (4, .int x4), (5, .int x5)] → c_X10_listSimples vl K k 3 x1 x2 x3 x4 x5 r0 t0 z = some z1 → W p l e ({ frames := 2, cells := 0, slots := 0, locals := 45 } : Room) s m args below meth c H locs 0 0 QQ (F0 m 35 ls [])) ∧ (∀ (x1 : Int32) (x2 : Int32) (x3 : Int32) (x4 : Int32) (x5 : Int32) (r0 : Nat) (t0 : Int32) (z : ow_MS) (H : Heap) (locs : List Loc) (ls : Array Slot), cw_X10 r0 → uw_M D vwCl (cX vl) q (tw_A (cX vl) u) s.heap u z H locs → lv_has ls 7 [(0, .ref (u r0)), (1, .int x1), (2, .int x2), (3, .int x3), (4, .int x4), (5, .int x5)] → c_X10_listSimples vl K k 4 x1 x2 x3 x4 x5 r0 t0 z = some z1 → W p l e ({ frames := 2, cells := 0, slots := 0, locals := 45 } : Room) s m args below meth c H locs 0 0 QQ (F0 m 108 ls [])) ∧ (∀ (x1 : Int32) (x2 : Int32) (x3 : Int32) (x4 : Int32) (x5 : Int32) (r0 : Nat) (t0 : Int32) (z : ow_MS) (H : Heap) (locs : List Loc) (ls : Array Slot), cw_X10 r0 → uw_M D vwCl (cX vl) q (tw_A (cX vl) u) s.heap u z H locs → lv_has ls 7 [(0, .ref (u r0)), (1, .int x1), (2, .int x2), (3, .int x3), (4, .int x4), (5, .int x5)] → c_X10_listSimples vl K k 5 x1 x2 x3 x4 x5 r0 t0 z = some z1 → W p l e ({ frames := 2, cells := 0, slots := 0, locals := 45 } : Room) s m args below meth c H locs 0 0 QQ (F0 m 109 ls [.int t0])) ∧ (∀ (x1 : Int32) (x2 : Int32) (x3 : Int32) (x4 : Int32) (x5 : Int32) (r0 : Nat) (t0 : Int32) (z : ow_MS) (H : Heap) (locs : List Loc) (ls : Array Slot), cw_X10 r0 → uw_M D vwCl (cX vl) q (tw_A (cX vl) u) s.heap u z H locs → lv_has ls 7 [(0, .ref (u r0)), (1, .int x1), (2, .int x2), (3, .int x3), (4, .int x4), (5, .int x5)] → c_X10_listSimples vl K k 6 x1 x2 x3 x4 x5 r0 t0 z = some z1 → W p l e ({ frames := 2, cells := 0, slots := 0, locals := 45 } : Room) s m args below meth c H locs 0 0 QQ (F0 m 162 ls [])) := by
    intro k
    induction k with
    | zero => exact ⟨fun _ _ _ _ _ _ _ _ _ _ _ _ _ _ hq => cw_no hq, fun _ _ _ _ _ _ _ _ _ _ _ _ _ _ hq => cw_no hq, fun _ _ _ _ _ _ _ _ _ _ _ _ _ _ hq => cw_no hq, fun _ _ _ _ _ _ _ _ _ _ _ _ _ _ hq => cw_no hq, fun _ _ _ _ _ _ _ _ _ _ _ _ _ _ hq => cw_no hq, fun _ _ _ _ _ _ _ _ _ _ _ _ _ _ hq => cw_no hq, fun _ _ _ _ _ _ _ _ _ _ _ _ _ _ hq => cw_no hq⟩
    | succ k ih =>
      obtain ⟨ih_0, ih_1, ih_2, ih_3, ih_4, ih_5, ih_6⟩ := ih
      refine ⟨?_, ?_, ?_, ?_, ?_, ?_, ?_⟩
      · intro x1 x2 x3 x4 x5 r0 t0 z H locs ls hr0 hM hl hq
        have hq : cm_X10_listSimples_0 vl K (c_X10_listSimples vl K k) x1 x2 x3 x4 x5 r0 t0 z = some z1 := hq
        unfold cm_X10_listSimples_0 at hq
        refine lv_aload_n hx hb dcX10_listSimples_0 rfl (lv_at hl 0 rfl) ?_
        refine lv_iconst (v := 0) hx hb dcX10_listSimples_1 (by decide) ?_
        refine vpX10_59 hx hb hT hown hK hM hU hr0 hq dcX10_listSimples_2 (fun z1 H locs hM hq => ?_)
        refine lv_iconst (v := 1) hx hb dcX10_listSimples_5 (by decide) ?_
        refine lv_istore_n (lv' := [(1, .int 1), (0, .ref (u r0))]) hx hb dcX10_listSimples_6 rfl hl (by decide) rfl (fun ls hl => ?_)
        exact ih_1 1 0 0 0 0 r0 0 z1 H locs ls hr0 hM (lv_sub hl [1, 0] rfl) hq
      · intro x1 x2 x3 x4 x5 r0 t0 z H locs ls hr0 hM hl hq
        have hq : cm_X10_listSimples_1 vl K (c_X10_listSimples vl K k) x1 x2 x3 x4 x5 r0 t0 z = some z1 := hq
        unfold cm_X10_listSimples_1 at hq
        refine lv_iload_n hx hb dcX10_listSimples_7 rfl (lv_at hl 1 rfl) ?_
        refine lv_bipush (v := 6) hx hb dcX10_listSimples_8 (by decide) ?_
        refine lv_icmp_gt (tgt := 174) hx hb dcX10_listSimples_10 (by decide) (fun hc => ?_) (fun hc => ?_)
        · have hq := tw_it hq hc
          exact cw_vret hx hb hr hlocks hM hq hQQ dcX10_listSimples_174
        · have hq := tw_if hq hc
          refine lv_iconst (v := 0) hx hb dcX10_listSimples_13 (by decide) ?_
          refine lv_istore_n (lv' := [(2, .int 0), (0, .ref (u r0)), (1, .int x1)]) hx hb dcX10_listSimples_14 rfl hl (by decide) rfl (fun ls hl => ?_)
          exact ih_2 x1 0 0 0 0 r0 0 z H locs ls hr0 hM (lv_sub hl [1, 2, 0] rfl) hq
      · intro x1 x2 x3 x4 x5 r0 t0 z H locs ls hr0 hM hl hq
        have hq : cm_X10_listSimples_2 vl K (c_X10_listSimples vl K k) x1 x2 x3 x4 x5 r0 t0 z = some z1 := hq
        unfold cm_X10_listSimples_2 at hq
        refine lv_iload_n hx hb dcX10_listSimples_15 rfl (lv_at hl 2 rfl) ?_
        refine lv_iconst (v := 1) hx hb dcX10_listSimples_16 (by decide) ?_
        refine lv_iconst (v := 2) hx hb dcX10_listSimples_17 (by decide) ?_
        refine lv_aload_n hx hb dcX10_listSimples_18 rfl (lv_at hl 0 rfl) ?_
        refine vgX10_38 hx hb hT hown hK hM hr0 hq dcX10_listSimples_19 (fun v2 hq => ?_)
        refine lv_imul hx hb dcX10_listSimples_22 ?_
        refine lv_ishl hx hb dcX10_listSimples_23 ?_
        refine lv_icmp_ge (tgt := 168) hx hb dcX10_listSimples_24 (by decide) (fun hc => ?_) (fun hc => ?_)
        · have hq := tw_it hq hc
          refine lv_iinc (v := (x1 + 1)) (lv' := [(1, .int (x1 + 1)), (0, .ref (u r0)), (2, .int x2)]) hx hb dcX10_listSimples_168 hl (k := 1) rfl rfl (by decide) rfl (fun ls hl => ?_)
          refine lv_goto (tgt := 7) hx hb dcX10_listSimples_171 (by decide) ?_
          exact ih_1 (x1 + 1) 0 0 0 0 r0 0 z H locs ls hr0 hM (lv_sub hl [1, 0] rfl) hq
        · have hq := tw_if hq hc
          refine lv_iconst (v := 0) hx hb dcX10_listSimples_27 (by decide) ?_
          refine lv_istore_n (lv' := [(3, .int 0), (0, .ref (u r0)), (1, .int x1), (2, .int x2)]) hx hb dcX10_listSimples_28 rfl hl (by decide) rfl (fun ls hl => ?_)
          refine lv_iconst (v := 0) hx hb dcX10_listSimples_29 (by decide) ?_
          refine lv_istore (lv' := [(4, .int 0), (3, .int 0), (0, .ref (u r0)), (1, .int x1), (2, .int x2)]) hx hb dcX10_listSimples_30 hl (by decide) rfl (fun ls hl => ?_)
          refine lv_iconst (v := 0) hx hb dcX10_listSimples_32 (by decide) ?_
          refine lv_istore (lv' := [(5, .int 0), (4, .int 0), (3, .int 0), (0, .ref (u r0)), (1, .int x1), (2, .int x2)]) hx hb dcX10_listSimples_33 hl (by decide) rfl (fun ls hl => ?_)
          exact ih_3 x1 x2 0 0 0 r0 0 z H locs ls hr0 hM (lv_sub hl [3, 4, 5, 2, 1, 0] rfl) hq
      · intro x1 x2 x3 x4 x5 r0 t0 z H locs ls hr0 hM hl hq
        have hq : cm_X10_listSimples_3 vl K (c_X10_listSimples vl K k) x1 x2 x3 x4 x5 r0 t0 z = some z1 := hq
        unfold cm_X10_listSimples_3 at hq
        refine lv_iload hx hb dcX10_listSimples_35 (lv_at hl 5 rfl) ?_
        refine lv_aload_n hx hb dcX10_listSimples_37 rfl (lv_at hl 0 rfl) ?_
        refine vgX10_38 hx hb hT hown hK hM hr0 hq dcX10_listSimples_38 (fun v3 hq => ?_)
        refine lv_icmp_ge (tgt := 79) hx hb dcX10_listSimples_41 (by decide) (fun hc => ?_) (fun hc => ?_)
        · have hq := tw_it hq hc
          refine lv_iload hx hb dcX10_listSimples_79 (lv_at hl 4 rfl) ?_
          refine lv_iconst (v := 1) hx hb dcX10_listSimples_81 (by decide) ?_
          refine lv_aload_n hx hb dcX10_listSimples_82 rfl (lv_at hl 0 rfl) ?_
          refine vgX10_38 hx hb hT hown hK hM hr0 hq dcX10_listSimples_83 (fun v4 hq => ?_)
          refine lv_ishl hx hb dcX10_listSimples_86 ?_
          refine lv_iconst (v := 1) hx hb dcX10_listSimples_87 (by decide) ?_
          refine lv_isub hx hb dcX10_listSimples_88 ?_
          refine lv_icmp_ne (tgt := 108) hx hb dcX10_listSimples_89 (by decide) (fun hc => ?_) (fun hc => ?_)
          · have hq := tw_if hq hc
            exact ih_4 x1 x2 x3 x4 x5 r0 0 z H locs ls hr0 hM (lv_sub hl [0, 1, 2, 3, 4, 5] rfl) hq
          · have hq := tw_it hq hc
            refine lv_aload_n hx hb dcX10_listSimples_92 rfl (lv_at hl 0 rfl) ?_
            refine vgX10_59 hx hb hT hown hK hM hr0 hq dcX10_listSimples_93 (fun v5 hq => ?_)
            refine lv_aload_n hx hb dcX10_listSimples_96 rfl (lv_at hl 0 rfl) ?_
            refine vgX10_25 hx hb hT hown hK hM hr0 dcX10_listSimples_97 ?_
            refine uw_alen cX_ok hx hb hK hM (cr_X10_7 hr0) dcX10_listSimples_100 ?_
            refine lv_icmp_ge (tgt := 108) hx hb dcX10_listSimples_101 (by decide) (fun hc => ?_) (fun hc => ?_)
            · have hq := tw_it hq hc
              exact ih_4 x1 x2 x3 x4 x5 r0 0 z H locs ls hr0 hM (lv_sub hl [0, 1, 2, 3, 4, 5] rfl) hq
            · have hq := tw_if hq hc
              refine lv_iconst (v := 1) hx hb dcX10_listSimples_104 (by decide) ?_
              refine lv_goto (tgt := 109) hx hb dcX10_listSimples_105 (by decide) ?_
              exact ih_5 x1 x2 x3 x4 x5 r0 1 z H locs ls hr0 hM (lv_sub hl [0, 1, 2, 3, 4, 5] rfl) hq
        · have hq := tw_if hq hc
          refine lv_iload_n hx hb dcX10_listSimples_44 rfl (lv_at hl 2 rfl) ?_
          refine lv_iconst (v := 2) hx hb dcX10_listSimples_45 (by decide) ?_
          refine lv_iload hx hb dcX10_listSimples_46 (lv_at hl 5 rfl) ?_
          refine lv_imul hx hb dcX10_listSimples_48 ?_
          refine lv_ishr hx hb dcX10_listSimples_49 ?_
          refine lv_iconst (v := 3) hx hb dcX10_listSimples_50 (by decide) ?_
          refine lv_iand hx hb dcX10_listSimples_51 ?_
          refine lv_istore (lv' := [(6, .int (((x2 : Int32) >>> (((2 * x5) : Int32) &&& 31)) &&& 3)), (0, .ref (u r0)), (1, .int x1), (2, .int x2), (3, .int x3), (4, .int x4), (5, .int x5)]) hx hb dcX10_listSimples_52 hl (by decide) rfl (fun ls hl => ?_)
          refine lv_iload_n hx hb dcX10_listSimples_54 rfl (lv_at hl 4 rfl) ?_
          refine lv_iload hx hb dcX10_listSimples_55 (lv_at hl 0 rfl) ?_
          refine lv_iconst (v := 4) hx hb dcX10_listSimples_57 (by decide) ?_
          refine lv_iload hx hb dcX10_listSimples_58 (lv_at hl 6 rfl) ?_
          refine lv_imul hx hb dcX10_listSimples_60 ?_
          refine lv_ishl hx hb dcX10_listSimples_61 ?_
          refine lv_ior hx hb dcX10_listSimples_62 ?_
          refine lv_istore_n (lv' := [(3, .int (x3 ||| (((((x2 : Int32) >>> (((2 * x5) : Int32) &&& 31)) &&& 3) : Int32) <<< (((4 * x5) : Int32) &&& 31)))), (6, .int (((x2 : Int32) >>> (((2 * x5) : Int32) &&& 31)) &&& 3)), (0, .ref (u r0)), (1, .int x1), (2, .int x2), (4, .int x4), (5, .int x5)]) hx hb dcX10_listSimples_63 rfl hl (by decide) rfl (fun ls hl => ?_)
          refine lv_iload hx hb dcX10_listSimples_64 (lv_at hl 5 rfl) ?_
          refine lv_iconst (v := 1) hx hb dcX10_listSimples_66 (by decide) ?_
          refine lv_iload hx hb dcX10_listSimples_67 (lv_at hl 1 rfl) ?_
          refine lv_ishl hx hb dcX10_listSimples_69 ?_
          refine lv_ior hx hb dcX10_listSimples_70 ?_
          refine lv_istore (lv' := [(4, .int (x4 ||| ((1 : Int32) <<< (((((x2 : Int32) >>> (((2 * x5) : Int32) &&& 31)) &&& 3) : Int32) &&& 31)))), (3, .int (x3 ||| (((((x2 : Int32) >>> (((2 * x5) : Int32) &&& 31)) &&& 3) : Int32) <<< (((4 * x5) : Int32) &&& 31)))), (6, .int (((x2 : Int32) >>> (((2 * x5) : Int32) &&& 31)) &&& 3)), (0, .ref (u r0)), (1, .int x1), (2, .int x2), (5, .int x5)]) hx hb dcX10_listSimples_71 hl (by decide) rfl (fun ls hl => ?_)
          refine lv_iinc (v := (x5 + 1)) (lv' := [(5, .int (x5 + 1)), (4, .int (x4 ||| ((1 : Int32) <<< (((((x2 : Int32) >>> (((2 * x5) : Int32) &&& 31)) &&& 3) : Int32) &&& 31)))), (3, .int (x3 ||| (((((x2 : Int32) >>> (((2 * x5) : Int32) &&& 31)) &&& 3) : Int32) <<< (((4 * x5) : Int32) &&& 31)))), (6, .int (((x2 : Int32) >>> (((2 * x5) : Int32) &&& 31)) &&& 3)), (0, .ref (u r0)), (1, .int x1), (2, .int x2)]) hx hb dcX10_listSimples_73 hl (k := 6) rfl rfl (by decide) rfl (fun ls hl => ?_)
          refine lv_goto (tgt := 35) hx hb dcX10_listSimples_76 (by decide) ?_
          exact ih_3 x1 x2 (x3 ||| (((((x2 : Int32) >>> (((2 * x5) : Int32) &&& 31)) &&& 3) : Int32) <<< (((4 * x5) : Int32) &&& 31))) (x4 ||| ((1 : Int32) <<< (((((x2 : Int32) >>> (((2 * x5) : Int32) &&& 31)) &&& 3) : Int32) &&& 31))) (x5 + 1) r0 0 z H locs ls hr0 hM (lv_sub hl [4, 5, 6, 2, 1, 0] rfl) hq
      · intro x1 x2 x3 x4 x5 r0 t0 z H locs ls hr0 hM hl hq
        have hq : cm_X10_listSimples_4 vl K (c_X10_listSimples vl K k) x1 x2 x3 x4 x5 r0 t0 z = some z1 := hq
        unfold cm_X10_listSimples_4 at hq
        refine lv_iconst (v := 0) hx hb dcX10_listSimples_108 (by decide) ?_
        exact ih_5 x1 x2 x3 x4 x5 r0 0 z H locs ls hr0 hM (lv_sub hl [0, 1, 2, 3, 4, 5] rfl) hq
      · intro x1 x2 x3 x4 x5 r0 t0 z H locs ls hr0 hM hl hq
        have hq : cm_X10_listSimples_5 vl K (c_X10_listSimples vl K k) x1 x2 x3 x4 x5 r0 t0 z = some z1 := hq
        unfold cm_X10_listSimples_5 at hq
        refine lv_istore (lv' := [(5, .int t0), (0, .ref (u r0)), (1, .int x1), (2, .int x2), (3, .int x3), (4, .int x4)]) hx hb dcX10_listSimples_109 hl (by decide) rfl (fun ls hl => ?_)
        refine lv_iload hx hb dcX10_listSimples_111 (lv_at hl 0 rfl) ?_
        refine lv_if_eq (tgt := 162) hx hb dcX10_listSimples_113 (by decide) (fun hc => ?_) (fun hc => ?_)
        · have hq := tw_it hq hc
          exact ih_6 x1 x2 x3 x4 t0 r0 0 z H locs ls hr0 hM (lv_sub hl [1, 2, 3, 4, 5, 0] rfl) hq
        · have hq := tw_if hq hc
          refine lv_aload_n hx hb dcX10_listSimples_116 rfl (lv_at hl 1 rfl) ?_
          refine lv_iload_n hx hb dcX10_listSimples_117 rfl (lv_at hl 4 rfl) ?_
          obtain ⟨v7, z6, hcq, hq⟩ := tw_cl1 hq
          refine uw_cali hU hM (va_runV (As := [.int x3]) (rest := []) ⟨hx, hb, hml, hown, hts⟩ (kc_X10_changesOf l D q vl u hU.1 K r0 x3 hr0 z z6 v7 hcq) (cwV 1 hts (tw_gV wC_good xq_709 xq_710 xq_711 xq_704 xq_712) rfl rfl rfl cdd_X10_changesOf ⟨(Nat.le_of_ble_eq_true rfl), (Nat.le_of_ble_eq_true rfl)⟩) (cw_preV hK hM (co_X10 hr0) rfl) rfl rfl hl.1 rfl (lv_room (Nat.le_of_ble_eq_true rfl)) dcX10_listSimples_118 ⟨(Nat.le_of_ble_eq_true rfl), (Nat.le_of_ble_eq_true rfl)⟩) (fun H locs hM => ?_)
          refine cw_pure hM (va_runS (As := [.int v7]) (rest := []) ⟨hx, hb, hml, hown, hts⟩ (k_J6_bitCount_0f7a4 l v7) (va_cwS 1 hts (cw_gbc xq_714) rfl rfl rfl (by decide +kernel) ⟨(Nat.le_of_ble_eq_true rfl), (Nat.le_of_ble_eq_true rfl)⟩) ⟨fun a U g mk q => q, fun U hU hW => ⟨rfl, trivial⟩⟩ rfl rfl hl.1 rfl (lv_room (Nat.le_of_ble_eq_true rfl)) dcX10_listSimples_121 ⟨(Nat.le_of_ble_eq_true rfl), (Nat.le_of_ble_eq_true rfl)⟩) (fun H locs hM => ?_)
          refine lv_iload_n hx hb dcX10_listSimples_124 rfl (lv_at hl 2 rfl) ?_
          refine lv_icmp_ne (tgt := 162) hx hb dcX10_listSimples_125 (by decide) (fun hc => ?_) (fun hc => ?_)
          · have hq := tw_if hq hc
            exact ih_6 x1 x2 x3 x4 t0 r0 0 z6 H locs ls hr0 hM (lv_sub hl [1, 2, 3, 4, 5, 0] rfl) hq
          · have hq := tw_it hq hc
            refine lv_aload_n hx hb dcX10_listSimples_128 rfl (lv_at hl 1 rfl) ?_
            refine vgX10_25 hx hb hT hown hK hM hr0 dcX10_listSimples_129 ?_
            refine lv_aload_n hx hb dcX10_listSimples_132 rfl (lv_at hl 1 rfl) ?_
            refine vgX10_59 hx hb hT hown hK hM hr0 hq dcX10_listSimples_133 (fun v9 hq => ?_)
            refine lv_iload_n hx hb dcX10_listSimples_136 rfl (lv_at hl 4 rfl) ?_
            refine uw_iast cX_ok hU hx hb hK hM (cr_X10_7 hr0) hq dcX10_listSimples_137 (fun z10 H locs hM hq => ?_)
            refine lv_aload_n hx hb dcX10_listSimples_138 rfl (lv_at hl 1 rfl) ?_
            refine vgX10_28 hx hb hT hown hK hM hr0 dcX10_listSimples_139 ?_
            refine lv_aload_n hx hb dcX10_listSimples_142 rfl (lv_at hl 1 rfl) ?_
            refine vgX10_59 hx hb hT hown hK hM hr0 hq dcX10_listSimples_143 (fun v11 hq => ?_)
            refine lv_aload_n hx hb dcX10_listSimples_146 rfl (lv_at hl 1 rfl) ?_
            refine lv_iload_n hx hb dcX10_listSimples_147 rfl (lv_at hl 4 rfl) ?_
            obtain ⟨v13, z12, hcq, hq⟩ := tw_cl1 hq
            refine uw_cali hU hM (va_runV (As := [.int x3]) (rest := [.int v11, .ref (u (r0 + 9))]) ⟨hx, hb, hml, hown, hts⟩ (kc_X10_changesOf l D q vl u hU.1 K r0 x3 hr0 z10 z12 v13 hcq) (cwV 1 hts (tw_gV wC_good xq_709 xq_710 xq_711 xq_704 xq_712) rfl rfl rfl cdd_X10_changesOf ⟨(Nat.le_of_ble_eq_true rfl), (Nat.le_of_ble_eq_true rfl)⟩) (cw_preV hK hM (co_X10 hr0) rfl) rfl rfl hl.1 rfl (lv_room (Nat.le_of_ble_eq_true rfl)) dcX10_listSimples_148 ⟨(Nat.le_of_ble_eq_true rfl), (Nat.le_of_ble_eq_true rfl)⟩) (fun H locs hM => ?_)
            refine uw_iast cX_ok hU hx hb hK hM (cr_X10_8 hr0) hq dcX10_listSimples_151 (fun z14 H locs hM hq => ?_)
            refine lv_aload_n hx hb dcX10_listSimples_152 rfl (lv_at hl 1 rfl) ?_
            refine lv_dup hx hb dcX10_listSimples_153 rfl ?_
            refine vgX10_59 hx hb hT hown hK hM hr0 hq dcX10_listSimples_154 (fun v15 hq => ?_)
            refine lv_iconst (v := 1) hx hb dcX10_listSimples_157 (by decide) ?_
            refine lv_iadd hx hb dcX10_listSimples_158 ?_
            refine vpX10_59 hx hb hT hown hK hM hU hr0 hq dcX10_listSimples_159 (fun z16 H locs hM hq => ?_)
            exact ih_6 x1 x2 x3 x4 t0 r0 0 z16 H locs ls hr0 hM (lv_sub hl [1, 2, 3, 4, 5, 0] rfl) hq
      · intro x1 x2 x3 x4 x5 r0 t0 z H locs ls hr0 hM hl hq
        have hq : cm_X10_listSimples_6 vl K (c_X10_listSimples vl K k) x1 x2 x3 x4 x5 r0 t0 z = some z1 := hq
        unfold cm_X10_listSimples_6 at hq
        refine lv_iinc (v := (x2 + 1)) (lv' := [(2, .int (x2 + 1)), (0, .ref (u r0)), (1, .int x1), (3, .int x3), (4, .int x4), (5, .int x5)]) hx hb dcX10_listSimples_162 hl (k := 2) rfl rfl (by decide) rfl (fun ls hl => ?_)
        refine lv_goto (tgt := 15) hx hb dcX10_listSimples_165 (by decide) ?_
        exact ih_2 x1 (x2 + 1) 0 0 0 r0 0 z H locs ls hr0 hM (lv_sub hl [1, 2, 0] rfl) hq
  exact (key K).1 0 0 0 0 0 r0 0 z s.heap [] ls hr0 hM (lv_sub hl [0] rfl) hq
theorem dcX10_find_0 : decode cX10_find 0 = .ok (.aload_n 0, 1) := dw_at cX10_find_k0 (p := 0) rfl (by decide +kernel)
theorem dcX10_find_1 : decode cX10_find 1 = .ok (.aload_n 1, 1) := dw_at cX10_find_k0 (p := 1) rfl (by decide +kernel)
theorem dcX10_find_2 : decode cX10_find 2 = .ok (.getfield 34, 3) := dw_at cX10_find_k0 (p := 2) rfl (by decide +kernel)
theorem dcX10_find_5 : decode cX10_find 5 = .ok (.putfield 38, 3) := dw_at cX10_find_k0 (p := 5) rfl (by decide +kernel)
theorem dcX10_find_8 : decode cX10_find 8 = .ok (.aload_n 0, 1) := dw_at cX10_find_k0 (p := 8) rfl (by decide +kernel)
theorem dcX10_find_9 : decode cX10_find 9 = .ok (.getfield 21, 3) := dw_at cX10_find_k0 (p := 9) rfl (by decide +kernel)
theorem dcX10_find_12 : decode cX10_find 12 = .ok (.aload_n 1, 1) := dw_at cX10_find_k0 (p := 12) rfl (by decide +kernel)
theorem dcX10_find_13 : decode cX10_find 13 = .ok (.invokevirtual 39, 3) := dw_at cX10_find_k0 (p := 13) rfl (by decide +kernel)
theorem dcX10_find_16 : decode cX10_find 16 = .ok (.aload_n 0, 1) := dw_at cX10_find_k0 (p := 16) rfl (by decide +kernel)
theorem dcX10_find_17 : decode cX10_find 17 = .ok (.invokevirtual 43, 3) := dw_at cX10_find_k0 (p := 17) rfl (by decide +kernel)
theorem dcX10_find_20 : decode cX10_find 20 = .ok (.iconst 0, 1) := dw_at cX10_find_k0 (p := 20) rfl (by decide +kernel)
theorem dcX10_find_21 : decode cX10_find 21 = .ok (.istore_n 2, 1) := dw_at cX10_find_k0 (p := 21) rfl (by decide +kernel)
theorem dcX10_find_22 : decode cX10_find 22 = .ok (.iload_n 2, 1) := dw_at cX10_find_k0 (p := 22) rfl (by decide +kernel)
theorem dcX10_find_23 : decode cX10_find 23 = .ok (.bipush 100, 2) := dw_at cX10_find_k0 (p := 23) rfl (by decide +kernel)
theorem dcX10_find_25 : decode cX10_find 25 = .ok (.if_icmp .ge 44, 3) := dw_at cX10_find_k1 (p := 0) rfl (by decide +kernel)
theorem dcX10_find_28 : decode cX10_find 28 = .ok (.aload_n 0, 1) := dw_at cX10_find_k1 (p := 3) rfl (by decide +kernel)
theorem dcX10_find_29 : decode cX10_find 29 = .ok (.invokevirtual 46, 3) := dw_at cX10_find_k1 (p := 4) rfl (by decide +kernel)
theorem dcX10_find_32 : decode cX10_find 32 = .ok (.aload_n 0, 1) := dw_at cX10_find_k1 (p := 7) rfl (by decide +kernel)
theorem dcX10_find_33 : decode cX10_find 33 = .ok (.invokevirtual 49, 3) := dw_at cX10_find_k1 (p := 8) rfl (by decide +kernel)
theorem dcX10_find_36 : decode cX10_find 36 = .ok (.aload_n 0, 1) := dw_at cX10_find_k1 (p := 11) rfl (by decide +kernel)
theorem dcX10_find_37 : decode cX10_find 37 = .ok (.invokevirtual 52, 3) := dw_at cX10_find_k1 (p := 12) rfl (by decide +kernel)
theorem dcX10_find_40 : decode cX10_find 40 = .ok (.ifCond .eq 23, 3) := dw_at cX10_find_k1 (p := 15) rfl (by decide +kernel)
theorem dcX10_find_43 : decode cX10_find 43 = .ok (.aload_n 0, 1) := dw_at cX10_find_k1 (p := 18) rfl (by decide +kernel)
theorem dcX10_find_44 : decode cX10_find 44 = .ok (.getfield 56, 3) := dw_at cX10_find_k1 (p := 19) rfl (by decide +kernel)
theorem dcX10_find_47 : decode cX10_find 47 = .ok (.sipush 200, 3) := dw_at cX10_find_k1 (p := 22) rfl (by decide +kernel)
theorem dcX10_find_50 : decode cX10_find 50 = .ok (.if_icmp .le 8, 3) := dw_at cX10_find_k2 (p := 0) rfl (by decide +kernel)
theorem dcX10_find_53 : decode cX10_find 53 = .ok (.bipush (-2), 2) := dw_at cX10_find_k2 (p := 3) rfl (by decide +kernel)
theorem dcX10_find_55 : decode cX10_find 55 = .ok (.goto 7, 3) := dw_at cX10_find_k2 (p := 5) rfl (by decide +kernel)
theorem dcX10_find_58 : decode cX10_find 58 = .ok (.aload_n 0, 1) := dw_at cX10_find_k2 (p := 8) rfl (by decide +kernel)
theorem dcX10_find_59 : decode cX10_find 59 = .ok (.getfield 56, 3) := dw_at cX10_find_k2 (p := 9) rfl (by decide +kernel)
theorem dcX10_find_62 : decode cX10_find 62 = .ok (.ireturn, 1) := dw_at cX10_find_k2 (p := 12) rfl (by decide +kernel)
theorem dcX10_find_63 : decode cX10_find 63 = .ok (.iinc 2 1, 3) := dw_at cX10_find_k2 (p := 13) rfl (by decide +kernel)
theorem dcX10_find_66 : decode cX10_find 66 = .ok (.goto (-44), 3) := dw_at cX10_find_k2 (p := 16) rfl (by decide +kernel)
theorem dcX10_find_69 : decode cX10_find 69 = .ok (.bipush (-2), 2) := dw_at cX10_find_k2 (p := 19) rfl (by decide +kernel)
theorem dcX10_find_71 : decode cX10_find 71 = .ok (.ireturn, 1) := dw_at cX10_find_k2 (p := 21) rfl (by decide +kernel)
def cm_X10_find_0 (vl : Nat → Nat) (K : Nat) (go : Nat → Int32 → Nat → Nat → ow_MS → Option (Int32 × ow_MS)) (x2 : Int32) (r0 : Nat) (r1 : Nat) (z : ow_MS) : Option (Int32 × ow_MS) :=
 rdF z (r1 + 1) fun v1 => wrF z (r0 + 1) v1 fun z2 => cs0 (ce_X5_copy vl K (r0 + 1000) r1 z2) fun z3 => cs0 (ce_X10_listSimples vl K r0 z3) fun z4 => go 1 0 r0 r1 z4
def cm_X10_find_1 (vl : Nat → Nat) (K : Nat) (go : Nat → Int32 → Nat → Nat → ow_MS → Option (Int32 × ow_MS)) (x2 : Int32) (r0 : Nat) (r1 : Nat) (z : ow_MS) : Option (Int32 × ow_MS) :=
 (if 100 ≤ x2 then some ((-2), z)
 else cs0 (ce_X10_climb vl K r0 z) fun z5 => cs0 (ce_X10_begin vl K r0 z5) fun z6 => cs1 (ce_X10_gather vl K r0 z6) fun v8 z7 => (if v8 = 0 then go 1 (x2 + 1) r0 r1 z7
 else rdF z7 (r0 + 4) fun v9 => (if v9 ≤ 200 then rdF z7 (r0 + 4) fun v10 => some (v10, z7)
 else some ((-2), z7))))
def cb_X10_find (vl : Nat → Nat) (K : Nat) (go : Nat → Int32 → Nat → Nat → ow_MS → Option (Int32 × ow_MS)) (L : Nat) (x2 : Int32) (r0 : Nat) (r1 : Nat) (z : ow_MS) : Option (Int32 × ow_MS) := match L with
  | 0 => cm_X10_find_0 vl K go x2 r0 r1 z
  | 1 => cm_X10_find_1 vl K go x2 r0 r1 z
  | _ => none
def c_X10_find (vl : Nat → Nat) (K : Nat) : Nat → Nat → Int32 → Nat → Nat → ow_MS → Option (Int32 × ow_MS)
  | 0 => fun _ _ _ _ _ => none
  | k + 1 => cb_X10_find vl K (c_X10_find vl K k)
def ce_X10_find (vl : Nat → Nat) (K : Nat) (r0 : Nat) (r1 : Nat) (z : ow_MS) : Option (Int32 × ow_MS) := c_X10_find vl K K 0 0 r0 r1 z
abbrev wc_X10_find : List Cond := .code yX10_find cX10_find 3 (some .int) :: wC
theorem cdd_X10_find : yX10_find.cls = RX10 ∧ yX10_find.cls ≠ "java/lang/invoke/MethodHandle" ∧ yX10_find.cls ≠ "java/lang/invoke/VarHandle" ∧ (parseMethodDescriptor yX10_find.desc).map (fun d => d.parameters.length) = some 1 := by decide +kernel
set_option maxHeartbeats 4000000 in
set_option maxRecDepth 100000 in
theorem kc_X10_find (l : Launch) (D : va_G) (q : Nat → ClassId) (vl u : Nat → Nat) (hU0 : tw_inj (cX vl) u) (K : Nat) (r0 : Nat) (r1 : Nat) (hr0 : cw_X10 r0) (hr1 : cw_X5 r1) (z z1 : ow_MS) (r : Int32) (hq : ce_X10_find vl K r0 r1 z = some (r, z1)) : Met l yX10_find wc_X10_find ({ frames := 6, cells := 0, slots := 0, locals := 151 } : Room) (va_Pc [.ref (u r0), .ref (u r1)] (cw_pre D q vl u z)) (va_Qi (fun x (_ : Unit) => x = r) (fun _ t => va_P D vwCl (uw (cX vl) q u z1) t.heap) (tw_A (cX vl) u)) 0 0 (tw_A (cX vl) u) := by
  refine Met.ofW (cc := cX10_find) (maxL := 3) (ret := (some .int)) (by decide) rfl ?_
  intro p e s m args below meth c s₁ B hml hv
  obtain ⟨rfl, hP, hK⟩ := hv
  have hx := B.exec
  have hb := B.bytes
  have hr := B.returns
  have hts := atoms_spec (ws := wc_X10_find) B.pre
  have hT : ∀ w ∈ wC, w.before ([.ref (u r0), .ref (u r1)] : List Value).toArray s = true := fun w h => hts w (List.mem_cons_of_mem _ h)
  have hown : s.vm.findClass RX10 = some m.cls := findClass_of_methodNamed B.named
  have hlocks := B.notSynchronized
  have hU : uw_inj (cX vl) u (tw_A (cX vl) u) := ⟨hU0, fun h hh => ⟨h, hh, rfl⟩⟩
  have hM : uw_M D vwCl (cX vl) q (tw_A (cX vl) u) s.heap u z s.heap [] := ⟨hP, va_S.rf⟩
  have hl := lv_entry ([.ref (u r0), .ref (u r1)]) (n := 3) (Nat.le_of_ble_eq_true rfl)
  rw [lg_entry_eq]
  generalize (lg_sl ([.ref (u r0), .ref (u r1)]) ++ List.replicate (3 - (lg_sl ([.ref (u r0), .ref (u r1)])).length) Slot.unset).toArray = ls at hl ⊢
  have hl : lv_has ls 3 [(0, .ref (u r0)), (1, .ref (u r1))] := hl
  refine ow_named (fun QQ hQQ => ?_)
  generalize ([.ref (u r0), .ref (u r1)] : List Value).toArray = args at hts hT hQQ ⊢
  have key : ∀ k : Nat, (∀ (x2 : Int32) (r0 : Nat) (r1 : Nat) (z : ow_MS) (H : Heap) (locs : List Loc) (ls : Array Slot), cw_X10 r0 → cw_X5 r1 → uw_M D vwCl (cX vl) q (tw_A (cX vl) u) s.heap u z H locs → lv_has ls 3 [(0, .ref (u r0)), (1, .ref (u r1))] → c_X10_find vl K k 0 x2 r0 r1 z = some (r, z1) → W p l e ({ frames := 6, cells := 0, slots := 0, locals := 151 } : Room) s m args below meth c H locs 0 0 QQ (F0 m 0 ls [])) ∧ (∀ (x2 : Int32) (r0 : Nat) (r1 : Nat) (z : ow_MS) (H : Heap) (locs : List Loc) (ls : Array Slot), cw_X10 r0 → cw_X5 r1 → uw_M D vwCl (cX vl) q (tw_A (cX vl) u) s.heap u z H locs → lv_has ls 3 [(0, .ref (u r0)), (1, .ref (u r1)), (2, .int x2)] → c_X10_find vl K k 1 x2 r0 r1 z = some (r, z1) → W p l e ({ frames := 6, cells := 0, slots := 0, locals := 151 } : Room) s m args below meth c H locs 0 0 QQ (F0 m 22 ls [])) := by
    intro k
    induction k with
    | zero => exact ⟨fun _ _ _ _ _ _ _ _ _ _ _ hq => cw_no hq, fun _ _ _ _ _ _ _ _ _ _ _ hq => cw_no hq⟩
    | succ k ih =>
      obtain ⟨ih_0, ih_1⟩ := ih
      refine ⟨?_, ?_⟩
      · intro x2 r0 r1 z H locs ls hr0 hr1 hM hl hq
        have hq : cm_X10_find_0 vl K (c_X10_find vl K k) x2 r0 r1 z = some (r, z1) := hq
        unfold cm_X10_find_0 at hq
        refine lv_aload_n hx hb dcX10_find_0 rfl (lv_at hl 0 rfl) ?_
        refine lv_aload_n hx hb dcX10_find_1 rfl (lv_at hl 1 rfl) ?_
        refine vgX10_34 hx hb hT hown hK hM hr1 hq dcX10_find_2 (fun v1 hq => ?_)
        refine vpX10_38 hx hb hT hown hK hM hU hr0 hq dcX10_find_5 (fun z2 H locs hM hq => ?_)
        refine lv_aload_n hx hb dcX10_find_8 rfl (lv_at hl 0 rfl) ?_
        refine vgX10_21 hx hb hT hown hK hM hr0 dcX10_find_9 ?_
        refine lv_aload_n hx hb dcX10_find_12 rfl (lv_at hl 1 rfl) ?_
        obtain ⟨z3, hcq, hq⟩ := tw_cl0 hq
        refine uw_calv hU hM (va_runV (As := [.ref (u r1)]) (rest := []) ⟨hx, hb, hml, hown, hts⟩ (kc_X5_copy l D q vl u hU.1 K (r0 + 1000) r1 (cs_X10_6 hr0) hr1 z2 z3 hcq) (cwV 1 hts (tw_gV wC_good xq_698 xq_699 xq_700 xq_403 xq_429) rfl rfl rfl cdd_X5_copy ⟨(Nat.le_of_ble_eq_true rfl), (Nat.le_of_ble_eq_true rfl)⟩) (cw_preV hK hM (co_X5 (cs_X10_6 hr0)) rfl) rfl rfl hl.1 rfl (lv_room (Nat.le_of_ble_eq_true rfl)) dcX10_find_13 ⟨(Nat.le_of_ble_eq_true rfl), (Nat.le_of_ble_eq_true rfl)⟩) (fun H locs hM => ?_)
        refine lv_aload_n hx hb dcX10_find_16 rfl (lv_at hl 0 rfl) ?_
        obtain ⟨z4, hcq, hq⟩ := tw_cl0 hq
        refine uw_calv hU hM (va_runV (As := []) (rest := []) ⟨hx, hb, hml, hown, hts⟩ (kc_X10_listSimples l D q vl u hU.1 K r0 hr0 z3 z4 hcq) (cwV 0 hts (tw_gV wC_good xq_701 xq_702 xq_703 xq_704 xq_705) rfl rfl rfl cdd_X10_listSimples ⟨(Nat.le_of_ble_eq_true rfl), (Nat.le_of_ble_eq_true rfl)⟩) (cw_preV hK hM (co_X10 hr0) rfl) rfl rfl hl.1 rfl (lv_room (Nat.le_of_ble_eq_true rfl)) dcX10_find_17 ⟨(Nat.le_of_ble_eq_true rfl), (Nat.le_of_ble_eq_true rfl)⟩) (fun H locs hM => ?_)
        refine lv_iconst (v := 0) hx hb dcX10_find_20 (by decide) ?_
        refine lv_istore_n (lv' := [(2, .int 0), (0, .ref (u r0)), (1, .ref (u r1))]) hx hb dcX10_find_21 rfl hl (by decide) rfl (fun ls hl => ?_)
        exact ih_1 0 r0 r1 z4 H locs ls hr0 hr1 hM (lv_sub hl [1, 2, 0] rfl) hq
      · intro x2 r0 r1 z H locs ls hr0 hr1 hM hl hq
        have hq : cm_X10_find_1 vl K (c_X10_find vl K k) x2 r0 r1 z = some (r, z1) := hq
        unfold cm_X10_find_1 at hq
        refine lv_iload_n hx hb dcX10_find_22 rfl (lv_at hl 2 rfl) ?_
        refine lv_bipush (v := 100) hx hb dcX10_find_23 (by decide) ?_
        refine lv_icmp_ge (tgt := 69) hx hb dcX10_find_25 (by decide) (fun hc => ?_) (fun hc => ?_)
        · have hq := tw_it hq hc
          refine lv_bipush (v := (-2)) hx hb dcX10_find_69 (by decide) ?_
          exact cw_iret hx hb hr hlocks hM hq hQQ dcX10_find_71
        · have hq := tw_if hq hc
          refine lv_aload_n hx hb dcX10_find_28 rfl (lv_at hl 0 rfl) ?_
          obtain ⟨z5, hcq, hq⟩ := tw_cl0 hq
          refine uw_calv hU hM (va_runV (As := []) (rest := []) ⟨hx, hb, hml, hown, hts⟩ (kc_X10_climb l D q vl u hU.1 K r0 hr0 z z5 hcq) (cwV 0 hts (tw_gV wC_good xq_715 xq_716 xq_717 xq_704 xq_718) rfl rfl rfl cdd_X10_climb ⟨(Nat.le_of_ble_eq_true rfl), (Nat.le_of_ble_eq_true rfl)⟩) (cw_preV hK hM (co_X10 hr0) rfl) rfl rfl hl.1 rfl (lv_room (Nat.le_of_ble_eq_true rfl)) dcX10_find_29 ⟨(Nat.le_of_ble_eq_true rfl), (Nat.le_of_ble_eq_true rfl)⟩) (fun H locs hM => ?_)
          refine lv_aload_n hx hb dcX10_find_32 rfl (lv_at hl 0 rfl) ?_
          obtain ⟨z6, hcq, hq⟩ := tw_cl0 hq
          refine uw_calv hU hM (va_runV (As := []) (rest := []) ⟨hx, hb, hml, hown, hts⟩ (kc_X10_begin l D q vl u hU.1 K r0 hr0 z5 z6 hcq) (cwV 0 hts (tw_gV wC_good xq_727 xq_728 xq_729 xq_704 xq_730) rfl rfl rfl cdd_X10_begin ⟨(Nat.le_of_ble_eq_true rfl), (Nat.le_of_ble_eq_true rfl)⟩) (cw_preV hK hM (co_X10 hr0) rfl) rfl rfl hl.1 rfl (lv_room (Nat.le_of_ble_eq_true rfl)) dcX10_find_33 ⟨(Nat.le_of_ble_eq_true rfl), (Nat.le_of_ble_eq_true rfl)⟩) (fun H locs hM => ?_)
          refine lv_aload_n hx hb dcX10_find_36 rfl (lv_at hl 0 rfl) ?_
          obtain ⟨v8, z7, hcq, hq⟩ := tw_cl1 hq
          refine uw_cali hU hM (va_runV (As := []) (rest := []) ⟨hx, hb, hml, hown, hts⟩ (kc_X10_gather l D q vl u hU.1 K r0 hr0 z6 z7 v8 hcq) (cwV 0 hts (tw_gV wC_good xq_745 xq_746 xq_747 xq_704 xq_748) rfl rfl rfl cdd_X10_gather ⟨(Nat.le_of_ble_eq_true rfl), (Nat.le_of_ble_eq_true rfl)⟩) (cw_preV hK hM (co_X10 hr0) rfl) rfl rfl hl.1 rfl (lv_room (Nat.le_of_ble_eq_true rfl)) dcX10_find_37 ⟨(Nat.le_of_ble_eq_true rfl), (Nat.le_of_ble_eq_true rfl)⟩) (fun H locs hM => ?_)
          refine lv_if_eq (tgt := 63) hx hb dcX10_find_40 (by decide) (fun hc => ?_) (fun hc => ?_)
          · have hq := tw_it hq hc
            refine lv_iinc (v := (x2 + 1)) (lv' := [(2, .int (x2 + 1)), (0, .ref (u r0)), (1, .ref (u r1))]) hx hb dcX10_find_63 hl (k := 2) rfl rfl (by decide) rfl (fun ls hl => ?_)
            refine lv_goto (tgt := 22) hx hb dcX10_find_66 (by decide) ?_
            exact ih_1 (x2 + 1) r0 r1 z7 H locs ls hr0 hr1 hM (lv_sub hl [1, 2, 0] rfl) hq
          · have hq := tw_if hq hc
            refine lv_aload_n hx hb dcX10_find_43 rfl (lv_at hl 0 rfl) ?_
            refine vgX10_56 hx hb hT hown hK hM hr0 hq dcX10_find_44 (fun v9 hq => ?_)
            refine lv_sipush (v := 200) hx hb dcX10_find_47 (by decide) ?_
            refine lv_icmp_le (tgt := 58) hx hb dcX10_find_50 (by decide) (fun hc => ?_) (fun hc => ?_)
            · have hq := tw_it hq hc
              refine lv_aload_n hx hb dcX10_find_58 rfl (lv_at hl 0 rfl) ?_
              refine vgX10_56 hx hb hT hown hK hM hr0 hq dcX10_find_59 (fun v10 hq => ?_)
              exact cw_iret hx hb hr hlocks hM hq hQQ dcX10_find_62
            · have hq := tw_if hq hc
              refine lv_bipush (v := (-2)) hx hb dcX10_find_53 (by decide) ?_
              refine lv_goto (tgt := 62) hx hb dcX10_find_55 (by decide) ?_
              exact cw_iret hx hb hr hlocks hM hq hQQ dcX10_find_62
  exact (key K).1 0 r0 r1 z s.heap [] ls hr0 hr1 hM (lv_sub hl [0, 1] rfl) hq
theorem dcX10_sameAs_0 : decode cX10_sameAs 0 = .ok (.aload_n 0, 1) := dw_at cX10_sameAs_k0 (p := 0) rfl (by decide +kernel)
theorem dcX10_sameAs_1 : decode cX10_sameAs 1 = .ok (.getfield 38, 3) := dw_at cX10_sameAs_k0 (p := 1) rfl (by decide +kernel)
theorem dcX10_sameAs_4 : decode cX10_sameAs 4 = .ok (.aload_n 1, 1) := dw_at cX10_sameAs_k0 (p := 4) rfl (by decide +kernel)
theorem dcX10_sameAs_5 : decode cX10_sameAs 5 = .ok (.getfield 38, 3) := dw_at cX10_sameAs_k0 (p := 5) rfl (by decide +kernel)
theorem dcX10_sameAs_8 : decode cX10_sameAs 8 = .ok (.if_icmp .ne 36, 3) := dw_at cX10_sameAs_k0 (p := 8) rfl (by decide +kernel)
theorem dcX10_sameAs_11 : decode cX10_sameAs 11 = .ok (.aload_n 0, 1) := dw_at cX10_sameAs_k0 (p := 11) rfl (by decide +kernel)
theorem dcX10_sameAs_12 : decode cX10_sameAs 12 = .ok (.getfield 87, 3) := dw_at cX10_sameAs_k0 (p := 12) rfl (by decide +kernel)
theorem dcX10_sameAs_15 : decode cX10_sameAs 15 = .ok (.aload_n 1, 1) := dw_at cX10_sameAs_k0 (p := 15) rfl (by decide +kernel)
theorem dcX10_sameAs_16 : decode cX10_sameAs 16 = .ok (.getfield 87, 3) := dw_at cX10_sameAs_k0 (p := 16) rfl (by decide +kernel)
theorem dcX10_sameAs_19 : decode cX10_sameAs 19 = .ok (.if_icmp .ne 25, 3) := dw_at cX10_sameAs_k0 (p := 19) rfl (by decide +kernel)
theorem dcX10_sameAs_22 : decode cX10_sameAs 22 = .ok (.aload_n 0, 1) := dw_at cX10_sameAs_k0 (p := 22) rfl (by decide +kernel)
theorem dcX10_sameAs_23 : decode cX10_sameAs 23 = .ok (.getfield 88, 3) := dw_at cX10_sameAs_k0 (p := 23) rfl (by decide +kernel)
theorem dcX10_sameAs_26 : decode cX10_sameAs 26 = .ok (.aload_n 1, 1) := dw_at cX10_sameAs_k1 (p := 0) rfl (by decide +kernel)
theorem dcX10_sameAs_27 : decode cX10_sameAs 27 = .ok (.getfield 88, 3) := dw_at cX10_sameAs_k1 (p := 1) rfl (by decide +kernel)
theorem dcX10_sameAs_30 : decode cX10_sameAs 30 = .ok (.if_icmp .ne 14, 3) := dw_at cX10_sameAs_k1 (p := 4) rfl (by decide +kernel)
theorem dcX10_sameAs_33 : decode cX10_sameAs 33 = .ok (.aload_n 0, 1) := dw_at cX10_sameAs_k1 (p := 7) rfl (by decide +kernel)
theorem dcX10_sameAs_34 : decode cX10_sameAs 34 = .ok (.getfield 56, 3) := dw_at cX10_sameAs_k1 (p := 8) rfl (by decide +kernel)
theorem dcX10_sameAs_37 : decode cX10_sameAs 37 = .ok (.aload_n 1, 1) := dw_at cX10_sameAs_k1 (p := 11) rfl (by decide +kernel)
theorem dcX10_sameAs_38 : decode cX10_sameAs 38 = .ok (.getfield 56, 3) := dw_at cX10_sameAs_k1 (p := 12) rfl (by decide +kernel)
theorem dcX10_sameAs_41 : decode cX10_sameAs 41 = .ok (.if_icmp .eq 5, 3) := dw_at cX10_sameAs_k1 (p := 15) rfl (by decide +kernel)
theorem dcX10_sameAs_44 : decode cX10_sameAs 44 = .ok (.iconst 0, 1) := dw_at cX10_sameAs_k1 (p := 18) rfl (by decide +kernel)
theorem dcX10_sameAs_45 : decode cX10_sameAs 45 = .ok (.ireturn, 1) := dw_at cX10_sameAs_k1 (p := 19) rfl (by decide +kernel)
theorem dcX10_sameAs_46 : decode cX10_sameAs 46 = .ok (.iconst 0, 1) := dw_at cX10_sameAs_k1 (p := 20) rfl (by decide +kernel)
theorem dcX10_sameAs_47 : decode cX10_sameAs 47 = .ok (.istore_n 2, 1) := dw_at cX10_sameAs_k1 (p := 21) rfl (by decide +kernel)
theorem dcX10_sameAs_48 : decode cX10_sameAs 48 = .ok (.iload_n 2, 1) := dw_at cX10_sameAs_k1 (p := 22) rfl (by decide +kernel)
theorem dcX10_sameAs_49 : decode cX10_sameAs 49 = .ok (.aload_n 0, 1) := dw_at cX10_sameAs_k1 (p := 23) rfl (by decide +kernel)
theorem dcX10_sameAs_50 : decode cX10_sameAs 50 = .ok (.getfield 56, 3) := dw_at cX10_sameAs_k2 (p := 0) rfl (by decide +kernel)
theorem dcX10_sameAs_53 : decode cX10_sameAs 53 = .ok (.if_icmp .ge 44, 3) := dw_at cX10_sameAs_k2 (p := 3) rfl (by decide +kernel)
theorem dcX10_sameAs_56 : decode cX10_sameAs 56 = .ok (.aload_n 0, 1) := dw_at cX10_sameAs_k2 (p := 6) rfl (by decide +kernel)
theorem dcX10_sameAs_57 : decode cX10_sameAs 57 = .ok (.aload_n 0, 1) := dw_at cX10_sameAs_k2 (p := 7) rfl (by decide +kernel)
theorem dcX10_sameAs_58 : decode cX10_sameAs 58 = .ok (.getfield 11, 3) := dw_at cX10_sameAs_k2 (p := 8) rfl (by decide +kernel)
theorem dcX10_sameAs_61 : decode cX10_sameAs 61 = .ok (.aload_n 0, 1) := dw_at cX10_sameAs_k2 (p := 11) rfl (by decide +kernel)
theorem dcX10_sameAs_62 : decode cX10_sameAs 62 = .ok (.getfield 15, 3) := dw_at cX10_sameAs_k2 (p := 12) rfl (by decide +kernel)
theorem dcX10_sameAs_65 : decode cX10_sameAs 65 = .ok (.iload_n 2, 1) := dw_at cX10_sameAs_k2 (p := 15) rfl (by decide +kernel)
theorem dcX10_sameAs_66 : decode cX10_sameAs 66 = .ok (.iaload, 1) := dw_at cX10_sameAs_k2 (p := 16) rfl (by decide +kernel)
theorem dcX10_sameAs_67 : decode cX10_sameAs 67 = .ok (.bipush 20, 2) := dw_at cX10_sameAs_k2 (p := 17) rfl (by decide +kernel)
theorem dcX10_sameAs_69 : decode cX10_sameAs 69 = .ok (.imul, 1) := dw_at cX10_sameAs_k2 (p := 19) rfl (by decide +kernel)
theorem dcX10_sameAs_70 : decode cX10_sameAs 70 = .ok (.aload_n 1, 1) := dw_at cX10_sameAs_k2 (p := 20) rfl (by decide +kernel)
theorem dcX10_sameAs_71 : decode cX10_sameAs 71 = .ok (.getfield 11, 3) := dw_at cX10_sameAs_k2 (p := 21) rfl (by decide +kernel)
theorem dcX10_sameAs_74 : decode cX10_sameAs 74 = .ok (.aload_n 1, 1) := dw_at cX10_sameAs_k3 (p := 0) rfl (by decide +kernel)
theorem dcX10_sameAs_75 : decode cX10_sameAs 75 = .ok (.getfield 15, 3) := dw_at cX10_sameAs_k3 (p := 1) rfl (by decide +kernel)
theorem dcX10_sameAs_78 : decode cX10_sameAs 78 = .ok (.iload_n 2, 1) := dw_at cX10_sameAs_k3 (p := 4) rfl (by decide +kernel)
theorem dcX10_sameAs_79 : decode cX10_sameAs 79 = .ok (.iaload, 1) := dw_at cX10_sameAs_k3 (p := 5) rfl (by decide +kernel)
theorem dcX10_sameAs_80 : decode cX10_sameAs 80 = .ok (.bipush 20, 2) := dw_at cX10_sameAs_k3 (p := 6) rfl (by decide +kernel)
theorem dcX10_sameAs_82 : decode cX10_sameAs 82 = .ok (.imul, 1) := dw_at cX10_sameAs_k3 (p := 8) rfl (by decide +kernel)
theorem dcX10_sameAs_83 : decode cX10_sameAs 83 = .ok (.invokevirtual 109, 3) := dw_at cX10_sameAs_k3 (p := 9) rfl (by decide +kernel)
theorem dcX10_sameAs_86 : decode cX10_sameAs 86 = .ok (.ifCond .eq 5, 3) := dw_at cX10_sameAs_k3 (p := 12) rfl (by decide +kernel)
theorem dcX10_sameAs_89 : decode cX10_sameAs 89 = .ok (.iconst 0, 1) := dw_at cX10_sameAs_k3 (p := 15) rfl (by decide +kernel)
theorem dcX10_sameAs_90 : decode cX10_sameAs 90 = .ok (.ireturn, 1) := dw_at cX10_sameAs_k3 (p := 16) rfl (by decide +kernel)
theorem dcX10_sameAs_91 : decode cX10_sameAs 91 = .ok (.iinc 2 1, 3) := dw_at cX10_sameAs_k3 (p := 17) rfl (by decide +kernel)
theorem dcX10_sameAs_94 : decode cX10_sameAs 94 = .ok (.goto (-46), 3) := dw_at cX10_sameAs_k3 (p := 20) rfl (by decide +kernel)
theorem dcX10_sameAs_97 : decode cX10_sameAs 97 = .ok (.iconst 1, 1) := dw_at cX10_sameAs_k3 (p := 23) rfl (by decide +kernel)
theorem dcX10_sameAs_98 : decode cX10_sameAs 98 = .ok (.ireturn, 1) := dw_at cX10_sameAs_k3 (p := 24) rfl (by decide +kernel)
def cm_X10_sameAs_0 (vl : Nat → Nat) (K : Nat) (go : Nat → Int32 → Nat → Nat → ow_MS → Option (Int32 × ow_MS)) (x2 : Int32) (r0 : Nat) (r1 : Nat) (z : ow_MS) : Option (Int32 × ow_MS) :=
 rdF z (r0 + 1) fun v1 => rdF z (r1 + 1) fun v2 => (if v1 = v2 then rdF z (r0 + 2) fun v3 => rdF z (r1 + 2) fun v4 => (if v3 = v4 then rdF z (r0 + 3) fun v5 => rdF z (r1 + 3) fun v6 => (if v5 = v6 then rdF z (r0 + 4) fun v7 => rdF z (r1 + 4) fun v8 => (if v7 = v8 then go 1 0 r0 r1 z
 else okZ 0 (some (0, z)))
 else okZ 0 (some (0, z)))
 else okZ 0 (some (0, z)))
 else okZ 0 (some (0, z)))
def cm_X10_sameAs_1 (vl : Nat → Nat) (K : Nat) (go : Nat → Int32 → Nat → Nat → ow_MS → Option (Int32 × ow_MS)) (x2 : Int32) (r0 : Nat) (r1 : Nat) (z : ow_MS) : Option (Int32 × ow_MS) :=
 rdF z (r0 + 4) fun v9 => (if v9 ≤ x2 then okZ 1 (some (1, z))
 else crI (cX vl) z (r0 + 6) x2 fun v10 => crI (cX vl) z (r1 + 6) x2 fun v11 => cs1 (ce_X10_compare vl K r0 (r0 + 5) (v10 * 20) (r1 + 5) (v11 * 20) z) fun v13 z12 => (if v13 = 0 then go 1 (x2 + 1) r0 r1 z12
 else okZ 0 (some (0, z12))))
def cb_X10_sameAs (vl : Nat → Nat) (K : Nat) (go : Nat → Int32 → Nat → Nat → ow_MS → Option (Int32 × ow_MS)) (L : Nat) (x2 : Int32) (r0 : Nat) (r1 : Nat) (z : ow_MS) : Option (Int32 × ow_MS) := match L with
  | 0 => cm_X10_sameAs_0 vl K go x2 r0 r1 z
  | 1 => cm_X10_sameAs_1 vl K go x2 r0 r1 z
  | _ => none
def c_X10_sameAs (vl : Nat → Nat) (K : Nat) : Nat → Nat → Int32 → Nat → Nat → ow_MS → Option (Int32 × ow_MS)
  | 0 => fun _ _ _ _ _ => none
  | k + 1 => cb_X10_sameAs vl K (c_X10_sameAs vl K k)
def ce_X10_sameAs (vl : Nat → Nat) (K : Nat) (r0 : Nat) (r1 : Nat) (z : ow_MS) : Option (Int32 × ow_MS) := c_X10_sameAs vl K K 0 0 r0 r1 z
abbrev wc_X10_sameAs : List Cond := .code yX10_sameAs cX10_sameAs 3 (some .boolean) :: wC
theorem cdd_X10_sameAs : yX10_sameAs.cls = RX10 ∧ yX10_sameAs.cls ≠ "java/lang/invoke/MethodHandle" ∧ yX10_sameAs.cls ≠ "java/lang/invoke/VarHandle" ∧ (parseMethodDescriptor yX10_sameAs.desc).map (fun d => d.parameters.length) = some 1 := by decide +kernel
set_option maxHeartbeats 4000000 in
set_option maxRecDepth 100000 in
theorem kc_X10_sameAs (l : Launch) (D : va_G) (q : Nat → ClassId) (vl u : Nat → Nat) (hU0 : tw_inj (cX vl) u) (K : Nat) (r0 : Nat) (r1 : Nat) (hr0 : cw_X10 r0) (hr1 : cw_X10 r1) (z z1 : ow_MS) (r : Int32) (hq : ce_X10_sameAs vl K r0 r1 z = some (r, z1)) : Met l yX10_sameAs wc_X10_sameAs ({ frames := 1, cells := 0, slots := 0, locals := 25 } : Room) (va_Pc [.ref (u r0), .ref (u r1)] (cw_pre D q vl u z)) (va_Qi (fun x (_ : Unit) => x = r) (fun _ t => va_P D vwCl (uw (cX vl) q u z1) t.heap) (tw_A (cX vl) u)) 0 0 (tw_A (cX vl) u) := by
  refine Met.ofW (cc := cX10_sameAs) (maxL := 3) (ret := (some .boolean)) (by decide) rfl ?_
  intro p e s m args below meth c s₁ B hml hv
  obtain ⟨rfl, hP, hK⟩ := hv
  have hx := B.exec
  have hb := B.bytes
  have hr := B.returns
  have hts := atoms_spec (ws := wc_X10_sameAs) B.pre
  have hT : ∀ w ∈ wC, w.before ([.ref (u r0), .ref (u r1)] : List Value).toArray s = true := fun w h => hts w (List.mem_cons_of_mem _ h)
  have hown : s.vm.findClass RX10 = some m.cls := findClass_of_methodNamed B.named
  have hlocks := B.notSynchronized
  have hU : uw_inj (cX vl) u (tw_A (cX vl) u) := ⟨hU0, fun h hh => ⟨h, hh, rfl⟩⟩
  have hM : uw_M D vwCl (cX vl) q (tw_A (cX vl) u) s.heap u z s.heap [] := ⟨hP, va_S.rf⟩
  have hl := lv_entry ([.ref (u r0), .ref (u r1)]) (n := 3) (Nat.le_of_ble_eq_true rfl)
  rw [lg_entry_eq]
  generalize (lg_sl ([.ref (u r0), .ref (u r1)]) ++ List.replicate (3 - (lg_sl ([.ref (u r0), .ref (u r1)])).length) Slot.unset).toArray = ls at hl ⊢
  have hl : lv_has ls 3 [(0, .ref (u r0)), (1, .ref (u r1))] := hl
  refine ow_named (fun QQ hQQ => ?_)
  generalize ([.ref (u r0), .ref (u r1)] : List Value).toArray = args at hts hT hQQ ⊢
  have key : ∀ k : Nat, (∀ (x2 : Int32) (r0 : Nat) (r1 : Nat) (z : ow_MS) (H : Heap) (locs : List Loc) (ls : Array Slot), cw_X10 r0 → cw_X10 r1 → uw_M D vwCl (cX vl) q (tw_A (cX vl) u) s.heap u z H locs → lv_has ls 3 [(0, .ref (u r0)), (1, .ref (u r1))] → c_X10_sameAs vl K k 0 x2 r0 r1 z = some (r, z1) → W p l e ({ frames := 1, cells := 0, slots := 0, locals := 25 } : Room) s m args below meth c H locs 0 0 QQ (F0 m 0 ls [])) ∧ (∀ (x2 : Int32) (r0 : Nat) (r1 : Nat) (z : ow_MS) (H : Heap) (locs : List Loc) (ls : Array Slot), cw_X10 r0 → cw_X10 r1 → uw_M D vwCl (cX vl) q (tw_A (cX vl) u) s.heap u z H locs → lv_has ls 3 [(0, .ref (u r0)), (1, .ref (u r1)), (2, .int x2)] → c_X10_sameAs vl K k 1 x2 r0 r1 z = some (r, z1) → W p l e ({ frames := 1, cells := 0, slots := 0, locals := 25 } : Room) s m args below meth c H locs 0 0 QQ (F0 m 48 ls [])) := by
    intro k
    induction k with
    | zero => exact ⟨fun _ _ _ _ _ _ _ _ _ _ _ hq => cw_no hq, fun _ _ _ _ _ _ _ _ _ _ _ hq => cw_no hq⟩
    | succ k ih =>
      obtain ⟨ih_0, ih_1⟩ := ih
      refine ⟨?_, ?_⟩
      · intro x2 r0 r1 z H locs ls hr0 hr1 hM hl hq
        have hq : cm_X10_sameAs_0 vl K (c_X10_sameAs vl K k) x2 r0 r1 z = some (r, z1) := hq
        unfold cm_X10_sameAs_0 at hq
        refine lv_aload_n hx hb dcX10_sameAs_0 rfl (lv_at hl 0 rfl) ?_
        refine vgX10_38 hx hb hT hown hK hM hr0 hq dcX10_sameAs_1 (fun v1 hq => ?_)
        refine lv_aload_n hx hb dcX10_sameAs_4 rfl (lv_at hl 1 rfl) ?_
        refine vgX10_38 hx hb hT hown hK hM hr1 hq dcX10_sameAs_5 (fun v2 hq => ?_)
        refine lv_icmp_ne (tgt := 44) hx hb dcX10_sameAs_8 (by decide) (fun hc => ?_) (fun hc => ?_)
        · have hq := tw_if hq hc
          refine lv_iconst (v := 0) hx hb dcX10_sameAs_44 (by decide) ?_
          obtain ⟨hz, hq⟩ := tw_gZ hq
          exact cw_zret hx hb hr hlocks hM hz hq hQQ dcX10_sameAs_45
        · have hq := tw_it hq hc
          refine lv_aload_n hx hb dcX10_sameAs_11 rfl (lv_at hl 0 rfl) ?_
          refine vgX10_87 hx hb hT hown hK hM hr0 hq dcX10_sameAs_12 (fun v3 hq => ?_)
          refine lv_aload_n hx hb dcX10_sameAs_15 rfl (lv_at hl 1 rfl) ?_
          refine vgX10_87 hx hb hT hown hK hM hr1 hq dcX10_sameAs_16 (fun v4 hq => ?_)
          refine lv_icmp_ne (tgt := 44) hx hb dcX10_sameAs_19 (by decide) (fun hc => ?_) (fun hc => ?_)
          · have hq := tw_if hq hc
            refine lv_iconst (v := 0) hx hb dcX10_sameAs_44 (by decide) ?_
            obtain ⟨hz, hq⟩ := tw_gZ hq
            exact cw_zret hx hb hr hlocks hM hz hq hQQ dcX10_sameAs_45
          · have hq := tw_it hq hc
            refine lv_aload_n hx hb dcX10_sameAs_22 rfl (lv_at hl 0 rfl) ?_
            refine vgX10_88 hx hb hT hown hK hM hr0 hq dcX10_sameAs_23 (fun v5 hq => ?_)
            refine lv_aload_n hx hb dcX10_sameAs_26 rfl (lv_at hl 1 rfl) ?_
            refine vgX10_88 hx hb hT hown hK hM hr1 hq dcX10_sameAs_27 (fun v6 hq => ?_)
            refine lv_icmp_ne (tgt := 44) hx hb dcX10_sameAs_30 (by decide) (fun hc => ?_) (fun hc => ?_)
            · have hq := tw_if hq hc
              refine lv_iconst (v := 0) hx hb dcX10_sameAs_44 (by decide) ?_
              obtain ⟨hz, hq⟩ := tw_gZ hq
              exact cw_zret hx hb hr hlocks hM hz hq hQQ dcX10_sameAs_45
            · have hq := tw_it hq hc
              refine lv_aload_n hx hb dcX10_sameAs_33 rfl (lv_at hl 0 rfl) ?_
              refine vgX10_56 hx hb hT hown hK hM hr0 hq dcX10_sameAs_34 (fun v7 hq => ?_)
              refine lv_aload_n hx hb dcX10_sameAs_37 rfl (lv_at hl 1 rfl) ?_
              refine vgX10_56 hx hb hT hown hK hM hr1 hq dcX10_sameAs_38 (fun v8 hq => ?_)
              refine lv_icmp_eq (tgt := 46) hx hb dcX10_sameAs_41 (by decide) (fun hc => ?_) (fun hc => ?_)
              · have hq := tw_it hq hc
                refine lv_iconst (v := 0) hx hb dcX10_sameAs_46 (by decide) ?_
                refine lv_istore_n (lv' := [(2, .int 0), (0, .ref (u r0)), (1, .ref (u r1))]) hx hb dcX10_sameAs_47 rfl hl (by decide) rfl (fun ls hl => ?_)
                exact ih_1 0 r0 r1 z H locs ls hr0 hr1 hM (lv_sub hl [1, 2, 0] rfl) hq
              · have hq := tw_if hq hc
                refine lv_iconst (v := 0) hx hb dcX10_sameAs_44 (by decide) ?_
                obtain ⟨hz, hq⟩ := tw_gZ hq
                exact cw_zret hx hb hr hlocks hM hz hq hQQ dcX10_sameAs_45
      · intro x2 r0 r1 z H locs ls hr0 hr1 hM hl hq
        have hq : cm_X10_sameAs_1 vl K (c_X10_sameAs vl K k) x2 r0 r1 z = some (r, z1) := hq
        unfold cm_X10_sameAs_1 at hq
        refine lv_iload_n hx hb dcX10_sameAs_48 rfl (lv_at hl 2 rfl) ?_
        refine lv_aload_n hx hb dcX10_sameAs_49 rfl (lv_at hl 0 rfl) ?_
        refine vgX10_56 hx hb hT hown hK hM hr0 hq dcX10_sameAs_50 (fun v9 hq => ?_)
        refine lv_icmp_ge (tgt := 97) hx hb dcX10_sameAs_53 (by decide) (fun hc => ?_) (fun hc => ?_)
        · have hq := tw_it hq hc
          refine lv_iconst (v := 1) hx hb dcX10_sameAs_97 (by decide) ?_
          obtain ⟨hz, hq⟩ := tw_gZ hq
          exact cw_zret hx hb hr hlocks hM hz hq hQQ dcX10_sameAs_98
        · have hq := tw_if hq hc
          refine lv_aload_n hx hb dcX10_sameAs_56 rfl (lv_at hl 0 rfl) ?_
          refine lv_aload_n hx hb dcX10_sameAs_57 rfl (lv_at hl 0 rfl) ?_
          refine vgX10_11 hx hb hT hown hK hM hr0 dcX10_sameAs_58 ?_
          refine lv_aload_n hx hb dcX10_sameAs_61 rfl (lv_at hl 0 rfl) ?_
          refine vgX10_15 hx hb hT hown hK hM hr0 dcX10_sameAs_62 ?_
          refine lv_iload_n hx hb dcX10_sameAs_65 rfl (lv_at hl 2 rfl) ?_
          refine uw_iald cX_ok hx hb hK hM (cr_X10_5 hr0) hq dcX10_sameAs_66 (fun v10 hq => ?_)
          refine lv_bipush (v := 20) hx hb dcX10_sameAs_67 (by decide) ?_
          refine lv_imul hx hb dcX10_sameAs_69 ?_
          refine lv_aload_n hx hb dcX10_sameAs_70 rfl (lv_at hl 1 rfl) ?_
          refine vgX10_11 hx hb hT hown hK hM hr1 dcX10_sameAs_71 ?_
          refine lv_aload_n hx hb dcX10_sameAs_74 rfl (lv_at hl 1 rfl) ?_
          refine vgX10_15 hx hb hT hown hK hM hr1 dcX10_sameAs_75 ?_
          refine lv_iload_n hx hb dcX10_sameAs_78 rfl (lv_at hl 2 rfl) ?_
          refine uw_iald cX_ok hx hb hK hM (cr_X10_5 hr1) hq dcX10_sameAs_79 (fun v11 hq => ?_)
          refine lv_bipush (v := 20) hx hb dcX10_sameAs_80 (by decide) ?_
          refine lv_imul hx hb dcX10_sameAs_82 ?_
          obtain ⟨v13, z12, hcq, hq⟩ := tw_cl1 hq
          refine uw_cali hU hM (va_runV (As := [.ref (u (r0 + 5)), .int (v10 * 20), .ref (u (r1 + 5)), .int (v11 * 20)]) (rest := []) ⟨hx, hb, hml, hown, hts⟩ (kc_X10_compare l D q vl u hU.1 K r0 (r0 + 5) (v10 * 20) (r1 + 5) (v11 * 20) hr0 (cr_X10_4 hr0) (cr_X10_4 hr1) z z12 v13 hcq) (cwV 4 hts (tw_gV wC_good xq_741 xq_742 xq_743 xq_704 xq_744) rfl rfl rfl cdd_X10_compare ⟨(Nat.le_of_ble_eq_true rfl), (Nat.le_of_ble_eq_true rfl)⟩) (cw_preV hK hM (co_X10 hr0) rfl) rfl rfl hl.1 rfl (lv_room (Nat.le_of_ble_eq_true rfl)) dcX10_sameAs_83 ⟨(Nat.le_of_ble_eq_true rfl), (Nat.le_of_ble_eq_true rfl)⟩) (fun H locs hM => ?_)
          refine lv_if_eq (tgt := 91) hx hb dcX10_sameAs_86 (by decide) (fun hc => ?_) (fun hc => ?_)
          · have hq := tw_it hq hc
            refine lv_iinc (v := (x2 + 1)) (lv' := [(2, .int (x2 + 1)), (0, .ref (u r0)), (1, .ref (u r1))]) hx hb dcX10_sameAs_91 hl (k := 2) rfl rfl (by decide) rfl (fun ls hl => ?_)
            refine lv_goto (tgt := 48) hx hb dcX10_sameAs_94 (by decide) ?_
            exact ih_1 (x2 + 1) r0 r1 z12 H locs ls hr0 hr1 hM (lv_sub hl [1, 2, 0] rfl) hq
          · have hq := tw_if hq hc
            refine lv_iconst (v := 0) hx hb dcX10_sameAs_89 (by decide) ?_
            obtain ⟨hz, hq⟩ := tw_gZ hq
            exact cw_zret hx hb hr hlocks hM hz hq hQQ dcX10_sameAs_90
  exact (key K).1 0 r0 r1 z s.heap [] ls hr0 hr1 hM (lv_sub hl [0, 1] rfl) hq
theorem dcX11_keep_0 : decode cX11_keep 0 = .ok (.aload_n 0, 1) := by decide +kernel
theorem dcX11_keep_1 : decode cX11_keep 1 = .ok (.getfield 44, 3) := by decide +kernel
theorem dcX11_keep_4 : decode cX11_keep 4 = .ok (.aload_n 0, 1) := by decide +kernel
theorem dcX11_keep_5 : decode cX11_keep 5 = .ok (.getfield 27, 3) := by decide +kernel
theorem dcX11_keep_8 : decode cX11_keep 8 = .ok (.invokevirtual 178, 3) := by decide +kernel
theorem dcX11_keep_11 : decode cX11_keep 11 = .ok (.aload_n 0, 1) := by decide +kernel
theorem dcX11_keep_12 : decode cX11_keep 12 = .ok (.getfield 14, 3) := by decide +kernel
theorem dcX11_keep_15 : decode cX11_keep 15 = .ok (.iload_n 1, 1) := by decide +kernel
theorem dcX11_keep_16 : decode cX11_keep 16 = .ok (.aload_n 0, 1) := by decide +kernel
theorem dcX11_keep_17 : decode cX11_keep 17 = .ok (.getfield 44, 3) := by decide +kernel
theorem dcX11_keep_20 : decode cX11_keep 20 = .ok (.getfield 182, 3) := by decide +kernel
theorem dcX11_keep_23 : decode cX11_keep 23 = .ok (.iconst 0, 1) := by decide +kernel
theorem dcX11_keep_24 : decode cX11_keep 24 = .ok (.invokevirtual 185, 3) := by decide +kernel
theorem dcX11_keep_27 : decode cX11_keep 27 = .ok (.iload_n 1, 1) := by decide +kernel
theorem dcX11_keep_28 : decode cX11_keep 28 = .ok (.ireturn, 1) := by decide +kernel
def cm_X11_keep_0 (vl : Nat → Nat) (K : Nat) (x1 : Int32) (r0 : Nat) (z : ow_MS) : Option (Int32 × ow_MS) :=
 cs0 (ce_X2_encode vl K (r0 + 7000) (r0 + 4000) z) fun z1 => cs0 (ce_X3_write vl K (r0 + 1000) x1 ((r0 + 7000) + 1000) 0 z1) fun z2 => some (x1, z2)
def ce_X11_keep (vl : Nat → Nat) (K : Nat) (r0 : Nat) (x1 : Int32) (z : ow_MS) : Option (Int32 × ow_MS) := cm_X11_keep_0 vl K x1 r0 z
abbrev wc_X11_keep : List Cond := .code yX11_keep cX11_keep 2 (some .int) :: wC
theorem cdd_X11_keep : yX11_keep.cls = RX11 ∧ yX11_keep.cls ≠ "java/lang/invoke/MethodHandle" ∧ yX11_keep.cls ≠ "java/lang/invoke/VarHandle" ∧ (parseMethodDescriptor yX11_keep.desc).map (fun d => d.parameters.length) = some 1 := by decide +kernel
set_option maxHeartbeats 4000000 in
set_option maxRecDepth 100000 in
theorem kc_X11_keep (l : Launch) (D : va_G) (q : Nat → ClassId) (vl u : Nat → Nat) (hU0 : tw_inj (cX vl) u) (K : Nat) (r0 : Nat) (x1 : Int32) (hr0 : cw_X11 r0) (z z1 : ow_MS) (r : Int32) (hq : ce_X11_keep vl K r0 x1 z = some (r, z1)) : Met l yX11_keep wc_X11_keep ({ frames := 5, cells := 0, slots := 0, locals := 155 } : Room) (va_Pc [.ref (u r0), .int x1] (cw_pre D q vl u z)) (va_Qi (fun x (_ : Unit) => x = r) (fun _ t => va_P D vwCl (uw (cX vl) q u z1) t.heap) (tw_A (cX vl) u)) 0 0 (tw_A (cX vl) u) := by
  refine Met.ofW (cc := cX11_keep) (maxL := 2) (ret := (some .int)) (by decide) rfl ?_
  intro p e s m args below meth c s₁ B hml hv
  obtain ⟨rfl, hP, hK⟩ := hv
  have hx := B.exec
  have hb := B.bytes
  have hr := B.returns
  have hts := atoms_spec (ws := wc_X11_keep) B.pre
  have hT : ∀ w ∈ wC, w.before ([.ref (u r0), .int x1] : List Value).toArray s = true := fun w h => hts w (List.mem_cons_of_mem _ h)
  have hown : s.vm.findClass RX11 = some m.cls := findClass_of_methodNamed B.named
  have hlocks := B.notSynchronized
  have hU : uw_inj (cX vl) u (tw_A (cX vl) u) := ⟨hU0, fun h hh => ⟨h, hh, rfl⟩⟩
  have hM : uw_M D vwCl (cX vl) q (tw_A (cX vl) u) s.heap u z s.heap [] := ⟨hP, va_S.rf⟩
  have hl := lv_entry ([.ref (u r0), .int x1]) (n := 2) (Nat.le_of_ble_eq_true rfl)
  rw [lg_entry_eq]
  generalize (lg_sl ([.ref (u r0), .int x1]) ++ List.replicate (2 - (lg_sl ([.ref (u r0), .int x1])).length) Slot.unset).toArray = ls at hl ⊢
  have hl : lv_has ls 2 [(0, .ref (u r0)), (1, .int x1)] := hl
  refine ow_named (fun QQ hQQ => ?_)
  generalize ([.ref (u r0), .int x1] : List Value).toArray = args at hts hT hQQ ⊢
  have hq : cm_X11_keep_0 vl K x1 r0 z = some (r, z1) := hq
  unfold cm_X11_keep_0 at hq
  suffices key : ∀ (H : Heap) (locs : List Loc), uw_M D vwCl (cX vl) q (tw_A (cX vl) u) s.heap u z H locs → W p l e ({ frames := 5, cells := 0, slots := 0, locals := 155 } : Room) s m args below meth c H locs 0 0 QQ (F0 m 0 ls []) from key s.heap [] hM
  intro H locs hM
  refine lv_aload_n hx hb dcX11_keep_0 rfl (lv_at hl 0 rfl) ?_
  refine vgX11_44 hx hb hT hown hK hM hr0 dcX11_keep_1 ?_
  refine lv_aload_n hx hb dcX11_keep_4 rfl (lv_at hl 0 rfl) ?_
  refine vgX11_27 hx hb hT hown hK hM hr0 dcX11_keep_5 ?_
  obtain ⟨z1, hcq, hq⟩ := tw_cl0 hq
  refine uw_calv hU hM (va_runV (As := [.ref (u (r0 + 4000))]) (rest := []) ⟨hx, hb, hml, hown, hts⟩ (kc_X2_encode l D q vl u hU.1 K (r0 + 7000) (r0 + 4000) (cs_X11_6 hr0) (cs_X11_3 hr0) z z1 hcq) (cwV 1 hts (tw_gV wC_good xq_787 xq_554 xq_555 xq_283 xq_334) rfl rfl rfl cdd_X2_encode ⟨(Nat.le_of_ble_eq_true rfl), (Nat.le_of_ble_eq_true rfl)⟩) (cw_preV hK hM (co_X2 (cs_X11_6 hr0)) rfl) rfl rfl hl.1 rfl (lv_room (Nat.le_of_ble_eq_true rfl)) dcX11_keep_8 ⟨(Nat.le_of_ble_eq_true rfl), (Nat.le_of_ble_eq_true rfl)⟩) (fun H locs hM => ?_)
  refine lv_aload_n hx hb dcX11_keep_11 rfl (lv_at hl 0 rfl) ?_
  refine vgX11_14 hx hb hT hown hK hM hr0 dcX11_keep_12 ?_
  refine lv_iload_n hx hb dcX11_keep_15 rfl (lv_at hl 1 rfl) ?_
  refine lv_aload_n hx hb dcX11_keep_16 rfl (lv_at hl 0 rfl) ?_
  refine vgX11_44 hx hb hT hown hK hM hr0 dcX11_keep_17 ?_
  refine vgX11_182 hx hb hT hown hK hM (cs_X11_6 hr0) dcX11_keep_20 ?_
  refine lv_iconst (v := 0) hx hb dcX11_keep_23 (by decide) ?_
  obtain ⟨z2, hcq, hq⟩ := tw_cl0 hq
  refine uw_calv hU hM (va_runV (As := [.int x1, .ref (u ((r0 + 7000) + 1000)), .int 0]) (rest := []) ⟨hx, hb, hml, hown, hts⟩ (kc_X3_write l D q vl u hU.1 K (r0 + 1000) x1 ((r0 + 7000) + 1000) 0 (cs_X11_0 hr0) (cs_X2_0 (cs_X11_6 hr0)) z1 z2 hcq) (cwV 3 hts (tw_gV wC_good xq_788 xq_331 xq_332 xq_313 xq_333) rfl rfl rfl cdd_X3_write ⟨(Nat.le_of_ble_eq_true rfl), (Nat.le_of_ble_eq_true rfl)⟩) (cw_preV hK hM (co_X3 (cs_X11_0 hr0)) rfl) rfl rfl hl.1 rfl (lv_room (Nat.le_of_ble_eq_true rfl)) dcX11_keep_24 ⟨(Nat.le_of_ble_eq_true rfl), (Nat.le_of_ble_eq_true rfl)⟩) (fun H locs hM => ?_)
  refine lv_iload_n hx hb dcX11_keep_27 rfl (lv_at hl 1 rfl) ?_
  exact cw_iret hx hb hr hlocks hM hq hQQ dcX11_keep_28
