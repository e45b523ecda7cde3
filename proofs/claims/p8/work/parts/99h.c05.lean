theorem dcX5_putBefore_0 : decode cX5_putBefore 0 = .ok (.aload_n 0, 1) := dw_at cX5_putBefore_k0 (p := 0) rfl (by decide +kernel)
theorem dcX5_putBefore_1 : decode cX5_putBefore 1 = .ok (.getfield 32, 3) := dw_at cX5_putBefore_k0 (p := 1) rfl (by decide +kernel)
theorem dcX5_putBefore_4 : decode cX5_putBefore 4 = .ok (.bipush 24, 2) := dw_at cX5_putBefore_k0 (p := 4) rfl (by decide +kernel)
theorem dcX5_putBefore_6 : decode cX5_putBefore 6 = .ok (.if_icmp .lt 4, 3) := dw_at cX5_putBefore_k0 (p := 6) rfl (by decide +kernel)
theorem dcX5_putBefore_9 : decode cX5_putBefore 9 = .ok (.return_, 1) := dw_at cX5_putBefore_k0 (p := 9) rfl (by decide +kernel)
theorem dcX5_putBefore_10 : decode cX5_putBefore 10 = .ok (.aload_n 0, 1) := dw_at cX5_putBefore_k0 (p := 10) rfl (by decide +kernel)
theorem dcX5_putBefore_11 : decode cX5_putBefore 11 = .ok (.getfield 11, 3) := dw_at cX5_putBefore_k0 (p := 11) rfl (by decide +kernel)
theorem dcX5_putBefore_14 : decode cX5_putBefore 14 = .ok (.iconst 0, 1) := dw_at cX5_putBefore_k0 (p := 14) rfl (by decide +kernel)
theorem dcX5_putBefore_15 : decode cX5_putBefore 15 = .ok (.aload_n 0, 1) := dw_at cX5_putBefore_k0 (p := 15) rfl (by decide +kernel)
theorem dcX5_putBefore_16 : decode cX5_putBefore 16 = .ok (.getfield 11, 3) := dw_at cX5_putBefore_k0 (p := 16) rfl (by decide +kernel)
theorem dcX5_putBefore_19 : decode cX5_putBefore 19 = .ok (.iconst 1, 1) := dw_at cX5_putBefore_k0 (p := 19) rfl (by decide +kernel)
theorem dcX5_putBefore_20 : decode cX5_putBefore 20 = .ok (.aload_n 0, 1) := dw_at cX5_putBefore_k0 (p := 20) rfl (by decide +kernel)
theorem dcX5_putBefore_21 : decode cX5_putBefore 21 = .ok (.getfield 32, 3) := dw_at cX5_putBefore_k0 (p := 21) rfl (by decide +kernel)
theorem dcX5_putBefore_24 : decode cX5_putBefore 24 = .ok (.invokestatic 52, 3) := dw_at cX5_putBefore_k1 (p := 0) rfl (by decide +kernel)
theorem dcX5_putBefore_27 : decode cX5_putBefore 27 = .ok (.aload_n 0, 1) := dw_at cX5_putBefore_k1 (p := 3) rfl (by decide +kernel)
theorem dcX5_putBefore_28 : decode cX5_putBefore 28 = .ok (.getfield 11, 3) := dw_at cX5_putBefore_k1 (p := 4) rfl (by decide +kernel)
theorem dcX5_putBefore_31 : decode cX5_putBefore 31 = .ok (.iconst 0, 1) := dw_at cX5_putBefore_k1 (p := 7) rfl (by decide +kernel)
theorem dcX5_putBefore_32 : decode cX5_putBefore 32 = .ok (.iload_n 1, 1) := dw_at cX5_putBefore_k1 (p := 8) rfl (by decide +kernel)
theorem dcX5_putBefore_33 : decode cX5_putBefore 33 = .ok (.iastore, 1) := dw_at cX5_putBefore_k1 (p := 9) rfl (by decide +kernel)
theorem dcX5_putBefore_34 : decode cX5_putBefore 34 = .ok (.aload_n 0, 1) := dw_at cX5_putBefore_k1 (p := 10) rfl (by decide +kernel)
theorem dcX5_putBefore_35 : decode cX5_putBefore 35 = .ok (.dup, 1) := dw_at cX5_putBefore_k1 (p := 11) rfl (by decide +kernel)
theorem dcX5_putBefore_36 : decode cX5_putBefore 36 = .ok (.getfield 32, 3) := dw_at cX5_putBefore_k1 (p := 12) rfl (by decide +kernel)
theorem dcX5_putBefore_39 : decode cX5_putBefore 39 = .ok (.iconst 1, 1) := dw_at cX5_putBefore_k1 (p := 15) rfl (by decide +kernel)
theorem dcX5_putBefore_40 : decode cX5_putBefore 40 = .ok (.iadd, 1) := dw_at cX5_putBefore_k1 (p := 16) rfl (by decide +kernel)
theorem dcX5_putBefore_41 : decode cX5_putBefore 41 = .ok (.putfield 32, 3) := dw_at cX5_putBefore_k1 (p := 17) rfl (by decide +kernel)
theorem dcX5_putBefore_44 : decode cX5_putBefore 44 = .ok (.iconst 1, 1) := dw_at cX5_putBefore_k1 (p := 20) rfl (by decide +kernel)
theorem dcX5_putBefore_45 : decode cX5_putBefore 45 = .ok (.istore_n 2, 1) := dw_at cX5_putBefore_k1 (p := 21) rfl (by decide +kernel)
theorem dcX5_putBefore_46 : decode cX5_putBefore 46 = .ok (.iconst 0, 1) := dw_at cX5_putBefore_k1 (p := 22) rfl (by decide +kernel)
theorem dcX5_putBefore_47 : decode cX5_putBefore 47 = .ok (.istore_n 3, 1) := dw_at cX5_putBefore_k1 (p := 23) rfl (by decide +kernel)
theorem dcX5_putBefore_48 : decode cX5_putBefore 48 = .ok (.iload_n 3, 1) := dw_at cX5_putBefore_k2 (p := 0) rfl (by decide +kernel)
theorem dcX5_putBefore_49 : decode cX5_putBefore 49 = .ok (.aload_n 0, 1) := dw_at cX5_putBefore_k2 (p := 1) rfl (by decide +kernel)
theorem dcX5_putBefore_50 : decode cX5_putBefore 50 = .ok (.getfield 32, 3) := dw_at cX5_putBefore_k2 (p := 2) rfl (by decide +kernel)
theorem dcX5_putBefore_53 : decode cX5_putBefore 53 = .ok (.iconst 1, 1) := dw_at cX5_putBefore_k2 (p := 5) rfl (by decide +kernel)
theorem dcX5_putBefore_54 : decode cX5_putBefore 54 = .ok (.isub, 1) := dw_at cX5_putBefore_k2 (p := 6) rfl (by decide +kernel)
theorem dcX5_putBefore_55 : decode cX5_putBefore 55 = .ok (.if_icmp .ge 19, 3) := dw_at cX5_putBefore_k2 (p := 7) rfl (by decide +kernel)
theorem dcX5_putBefore_58 : decode cX5_putBefore 58 = .ok (.iload_n 2, 1) := dw_at cX5_putBefore_k2 (p := 10) rfl (by decide +kernel)
theorem dcX5_putBefore_59 : decode cX5_putBefore 59 = .ok (.ifCond .eq 15, 3) := dw_at cX5_putBefore_k2 (p := 11) rfl (by decide +kernel)
theorem dcX5_putBefore_62 : decode cX5_putBefore 62 = .ok (.aload_n 0, 1) := dw_at cX5_putBefore_k2 (p := 14) rfl (by decide +kernel)
theorem dcX5_putBefore_63 : decode cX5_putBefore 63 = .ok (.iload_n 3, 1) := dw_at cX5_putBefore_k2 (p := 15) rfl (by decide +kernel)
theorem dcX5_putBefore_64 : decode cX5_putBefore 64 = .ok (.invokevirtual 73, 3) := dw_at cX5_putBefore_k2 (p := 16) rfl (by decide +kernel)
theorem dcX5_putBefore_67 : decode cX5_putBefore 67 = .ok (.istore_n 2, 1) := dw_at cX5_putBefore_k2 (p := 19) rfl (by decide +kernel)
theorem dcX5_putBefore_68 : decode cX5_putBefore 68 = .ok (.iinc 3 1, 3) := dw_at cX5_putBefore_k2 (p := 20) rfl (by decide +kernel)
theorem dcX5_putBefore_71 : decode cX5_putBefore 71 = .ok (.goto (-23), 3) := dw_at cX5_putBefore_k2 (p := 23) rfl (by decide +kernel)
theorem dcX5_putBefore_74 : decode cX5_putBefore 74 = .ok (.aload_n 0, 1) := dw_at cX5_putBefore_k2 (p := 26) rfl (by decide +kernel)
theorem dcX5_putBefore_75 : decode cX5_putBefore 75 = .ok (.invokevirtual 77, 3) := dw_at cX5_putBefore_k2 (p := 27) rfl (by decide +kernel)
theorem dcX5_putBefore_78 : decode cX5_putBefore 78 = .ok (.return_, 1) := dw_at cX5_putBefore_k2 (p := 30) rfl (by decide +kernel)
def cm_X5_putBefore_0 (vl : Nat → Nat) (K : Nat) (go : Nat → Int32 → Int32 → Int32 → Nat → ow_MS → Option ow_MS) (x1 : Int32) (x2 : Int32) (x3 : Int32) (r0 : Nat) (z : ow_MS) : Option ow_MS :=
 rdF z (r0 + 3) fun v1 => (if v1 < 24 then rdF z (r0 + 3) fun v2 => cpI (cX vl) z (r0 + 4) 0 (r0 + 4) 1 v2 fun z3 => ctI (cX vl) z3 (r0 + 4) 0 x1 fun z4 => rdF z4 (r0 + 3) fun v5 => wrF z4 (r0 + 3) (v5 + 1) fun z6 => go 1 x1 1 0 r0 z6
 else some z)
def cm_X5_putBefore_1 (vl : Nat → Nat) (K : Nat) (go : Nat → Int32 → Int32 → Int32 → Nat → ow_MS → Option ow_MS) (x1 : Int32) (x2 : Int32) (x3 : Int32) (r0 : Nat) (z : ow_MS) : Option ow_MS :=
 rdF z (r0 + 3) fun v7 => (if (v7 - 1) ≤ x3 then go 2 x1 x2 x3 r0 z
 else (if x2 = 0 then go 2 x1 x2 x3 r0 z
 else cs1 (ce_X5_weigh vl K r0 x3 z) fun v9 z8 => go 1 x1 v9 (x3 + 1) r0 z8))
def cm_X5_putBefore_2 (vl : Nat → Nat) (K : Nat) (go : Nat → Int32 → Int32 → Int32 → Nat → ow_MS → Option ow_MS) (x1 : Int32) (x2 : Int32) (x3 : Int32) (r0 : Nat) (z : ow_MS) : Option ow_MS :=
 cs0 (ce_X5_strip vl K r0 z) fun z10 => some z10
def cb_X5_putBefore (vl : Nat → Nat) (K : Nat) (go : Nat → Int32 → Int32 → Int32 → Nat → ow_MS → Option ow_MS) (L : Nat) (x1 : Int32) (x2 : Int32) (x3 : Int32) (r0 : Nat) (z : ow_MS) : Option ow_MS := match L with
  | 0 => cm_X5_putBefore_0 vl K go x1 x2 x3 r0 z
  | 1 => cm_X5_putBefore_1 vl K go x1 x2 x3 r0 z
  | 2 => cm_X5_putBefore_2 vl K go x1 x2 x3 r0 z
  | _ => none
def c_X5_putBefore (vl : Nat → Nat) (K : Nat) : Nat → Nat → Int32 → Int32 → Int32 → Nat → ow_MS → Option ow_MS
  | 0 => fun _ _ _ _ _ _ => none
  | k + 1 => cb_X5_putBefore vl K (c_X5_putBefore vl K k)
def ce_X5_putBefore (vl : Nat → Nat) (K : Nat) (r0 : Nat) (x1 : Int32) (z : ow_MS) : Option ow_MS := c_X5_putBefore vl K K 0 x1 0 0 r0 z
abbrev wc_X5_putBefore : List Cond := .code yX5_putBefore cX5_putBefore 4 none :: wC
theorem cdd_X5_putBefore : yX5_putBefore.cls = RX5 ∧ yX5_putBefore.cls ≠ "java/lang/invoke/MethodHandle" ∧ yX5_putBefore.cls ≠ "java/lang/invoke/VarHandle" ∧ (parseMethodDescriptor yX5_putBefore.desc).map (fun d => d.parameters.length) = some 1 := by decide +kernel
set_option maxHeartbeats 4000000 in
set_option maxRecDepth 100000 in
theorem kc_X5_putBefore (l : Launch) (D : va_G) (q : Nat → ClassId) (vl u : Nat → Nat) (hU0 : tw_inj (cX vl) u) (K : Nat) (r0 : Nat) (x1 : Int32) (hr0 : cw_X5 r0) (z z1 : ow_MS) (hq : ce_X5_putBefore vl K r0 x1 z = some z1) : Met l yX5_putBefore wc_X5_putBefore ({ frames := 3, cells := 0, slots := 0, locals := 81 } : Room) (va_Pc [.ref (u r0), .int x1] (cw_pre D q vl u z)) (va_Qv (fun (_ : Unit) => True) (fun _ t => va_P D vwCl (uw (cX vl) q u z1) t.heap) (tw_A (cX vl) u)) 0 0 (tw_A (cX vl) u) := by
  refine Met.ofW (cc := cX5_putBefore) (maxL := 4) (ret := none) (by decide) rfl ?_
  intro p e s m args below meth c s₁ B hml hv
  obtain ⟨rfl, hP, hK⟩ := hv
  have hx := B.exec
  have hb := B.bytes
  have hr := B.returns
  have hts := atoms_spec (ws := wc_X5_putBefore) B.pre
  have hT : ∀ w ∈ wC, w.before ([.ref (u r0), .int x1] : List Value).toArray s = true := fun w h => hts w (List.mem_cons_of_mem _ h)
  have hown : s.vm.findClass RX5 = some m.cls := findClass_of_methodNamed B.named
  have hlocks := B.notSynchronized
  have hU : uw_inj (cX vl) u (tw_A (cX vl) u) := ⟨hU0, fun h hh => ⟨h, hh, rfl⟩⟩
  have hM : uw_M D vwCl (cX vl) q (tw_A (cX vl) u) s.heap u z s.heap [] := ⟨hP, va_S.rf⟩
  have hl := lv_entry ([.ref (u r0), .int x1]) (n := 4) (Nat.le_of_ble_eq_true rfl)
  rw [lg_entry_eq]
  generalize (lg_sl ([.ref (u r0), .int x1]) ++ List.replicate (4 - (lg_sl ([.ref (u r0), .int x1])).length) Slot.unset).toArray = ls at hl ⊢
  have hl : lv_has ls 4 [(0, .ref (u r0)), (1, .int x1)] := hl
  refine ow_named (fun QQ hQQ => ?_)
  generalize ([.ref (u r0), .int x1] : List Value).toArray = args at hts hT hQQ ⊢
  have key : ∀ k : Nat, (∀ (x1 : Int32) (x2 : Int32) (x3 : Int32) (r0 : Nat) (z : ow_MS) (H : Heap) (locs : List Loc) (ls : Array Slot), cw_X5 r0 → uw_M D vwCl (cX vl) q (tw_A (cX vl) u) s.heap u z H locs → lv_has ls 4 [(0, .ref (u r0)), (1, .int x1)] → c_X5_putBefore vl K k 0 x1 x2 x3 r0 z = some z1 → W p l e ({ frames := 3, cells := 0, slots := 0, locals := 81 } : Room) s m args below meth c H locs 0 0 QQ (F0 m 0 ls [])) ∧ (∀ (x1 : Int32) (x2 : Int32) (x3 : Int32) (r0 : Nat) (z : ow_MS) (H : Heap) (locs : List Loc) (ls : Array Slot), cw_X5 r0 → uw_M D vwCl (cX vl) q (tw_A (cX vl) u) s.heap u z H locs → lv_has ls 4 [(0, .ref (u r0)), (1, .int x1), (2, .int x2), (3, .int x3)] → c_X5_putBefore vl K k 1 x1 x2 x3 r0 z = some z1 → W p l e ({ frames := 3, cells := 0, slots := 0, locals := 81 } : Room) s m args below meth c H locs 0 0 QQ (F0 m 48 ls [])) ∧ (∀ (x1 : Int32) (x2 : Int32) (x3 : Int32) (r0 : Nat) (z : ow_MS) (H : Heap) (locs : List Loc) (ls : Array Slot), cw_X5 r0 → uw_M D vwCl (cX vl) q (tw_A (cX vl) u) s.heap u z H locs → lv_has ls 4 [(0, .ref (u r0)), (1, .int x1), (2, .int x2), (3, .int x3)] → c_X5_putBefore vl K k 2 x1 x2 x3 r0 z = some z1 → W p l e ({ frames := 3, cells := 0, slots := 0, locals := 81 } : Room) s m args below meth c H locs 0 0 QQ (F0 m 74 ls [])) := by
    intro k
    induction k with
    | zero => exact ⟨fun _ _ _ _ _ _ _ _ _ _ _ hq => cw_no hq, fun _ _ _ _ _ _ _ _ _ _ _ hq => cw_no hq, fun _ _ _ _ _ _ _ _ _ _ _ hq => cw_no hq⟩
    | succ k ih =>
      obtain ⟨ih_0, ih_1, ih_2⟩ := ih
      refine ⟨?_, ?_, ?_⟩
      · intro x1 x2 x3 r0 z H locs ls hr0 hM hl hq
        have hq : cm_X5_putBefore_0 vl K (c_X5_putBefore vl K k) x1 x2 x3 r0 z = some z1 := hq
        unfold cm_X5_putBefore_0 at hq
        refine lv_aload_n hx hb dcX5_putBefore_0 rfl (lv_at hl 0 rfl) ?_
        refine vgX5_32 hx hb hT hown hK hM hr0 hq dcX5_putBefore_1 (fun v1 hq => ?_)
        refine lv_bipush (v := 24) hx hb dcX5_putBefore_4 (by decide) ?_
        refine lv_icmp_lt (tgt := 10) hx hb dcX5_putBefore_6 (by decide) (fun hc => ?_) (fun hc => ?_)
        · have hq := tw_it hq hc
          refine lv_aload_n hx hb dcX5_putBefore_10 rfl (lv_at hl 0 rfl) ?_
          refine vgX5_11 hx hb hT hown hK hM hr0 dcX5_putBefore_11 ?_
          refine lv_iconst (v := 0) hx hb dcX5_putBefore_14 (by decide) ?_
          refine lv_aload_n hx hb dcX5_putBefore_15 rfl (lv_at hl 0 rfl) ?_
          refine vgX5_11 hx hb hT hown hK hM hr0 dcX5_putBefore_16 ?_
          refine lv_iconst (v := 1) hx hb dcX5_putBefore_19 (by decide) ?_
          refine lv_aload_n hx hb dcX5_putBefore_20 rfl (lv_at hl 0 rfl) ?_
          refine vgX5_32 hx hb hT hown hK hM hr0 hq dcX5_putBefore_21 (fun v2 hq => ?_)
          refine uw_cpI cX_ok hU hx hb (by rw [hml]; exact hl.1.symm) hown (hT _ xq_425) (hT _ xq_130) (hT _ xq_131) (hT _ xq_132) hK hM (cr_X5_3 hr0) (cr_X5_3 hr0) hq (Nat.le_of_ble_eq_true rfl) (by decide) dcX5_putBefore_24 (fun z3 H locs hM hq => ?_)
          refine lv_aload_n hx hb dcX5_putBefore_27 rfl (lv_at hl 0 rfl) ?_
          refine vgX5_11 hx hb hT hown hK hM hr0 dcX5_putBefore_28 ?_
          refine lv_iconst (v := 0) hx hb dcX5_putBefore_31 (by decide) ?_
          refine lv_iload_n hx hb dcX5_putBefore_32 rfl (lv_at hl 1 rfl) ?_
          refine uw_iast cX_ok hU hx hb hK hM (cr_X5_3 hr0) hq dcX5_putBefore_33 (fun z4 H locs hM hq => ?_)
          refine lv_aload_n hx hb dcX5_putBefore_34 rfl (lv_at hl 0 rfl) ?_
          refine lv_dup hx hb dcX5_putBefore_35 rfl ?_
          refine vgX5_32 hx hb hT hown hK hM hr0 hq dcX5_putBefore_36 (fun v5 hq => ?_)
          refine lv_iconst (v := 1) hx hb dcX5_putBefore_39 (by decide) ?_
          refine lv_iadd hx hb dcX5_putBefore_40 ?_
          refine vpX5_32 hx hb hT hown hK hM hU hr0 hq dcX5_putBefore_41 (fun z6 H locs hM hq => ?_)
          refine lv_iconst (v := 1) hx hb dcX5_putBefore_44 (by decide) ?_
          refine lv_istore_n (lv' := [(2, .int 1), (0, .ref (u r0)), (1, .int x1)]) hx hb dcX5_putBefore_45 rfl hl (by decide) rfl (fun ls hl => ?_)
          refine lv_iconst (v := 0) hx hb dcX5_putBefore_46 (by decide) ?_
          refine lv_istore_n (lv' := [(3, .int 0), (2, .int 1), (0, .ref (u r0)), (1, .int x1)]) hx hb dcX5_putBefore_47 rfl hl (by decide) rfl (fun ls hl => ?_)
          exact ih_1 x1 1 0 r0 z6 H locs ls hr0 hM (lv_sub hl [2, 3, 1, 0] rfl) hq
        · have hq := tw_if hq hc
          exact cw_vret hx hb hr hlocks hM hq hQQ dcX5_putBefore_9
      · intro x1 x2 x3 r0 z H locs ls hr0 hM hl hq
        have hq : cm_X5_putBefore_1 vl K (c_X5_putBefore vl K k) x1 x2 x3 r0 z = some z1 := hq
        unfold cm_X5_putBefore_1 at hq
        refine lv_iload_n hx hb dcX5_putBefore_48 rfl (lv_at hl 3 rfl) ?_
        refine lv_aload_n hx hb dcX5_putBefore_49 rfl (lv_at hl 0 rfl) ?_
        refine vgX5_32 hx hb hT hown hK hM hr0 hq dcX5_putBefore_50 (fun v7 hq => ?_)
        refine lv_iconst (v := 1) hx hb dcX5_putBefore_53 (by decide) ?_
        refine lv_isub hx hb dcX5_putBefore_54 ?_
        refine lv_icmp_ge (tgt := 74) hx hb dcX5_putBefore_55 (by decide) (fun hc => ?_) (fun hc => ?_)
        · have hq := tw_it hq hc
          exact ih_2 x1 x2 x3 r0 z H locs ls hr0 hM (lv_sub hl [0, 1, 2, 3] rfl) hq
        · have hq := tw_if hq hc
          refine lv_iload_n hx hb dcX5_putBefore_58 rfl (lv_at hl 2 rfl) ?_
          refine lv_if_eq (tgt := 74) hx hb dcX5_putBefore_59 (by decide) (fun hc => ?_) (fun hc => ?_)
          · have hq := tw_it hq hc
            exact ih_2 x1 x2 x3 r0 z H locs ls hr0 hM (lv_sub hl [0, 1, 2, 3] rfl) hq
          · have hq := tw_if hq hc
            refine lv_aload_n hx hb dcX5_putBefore_62 rfl (lv_at hl 0 rfl) ?_
            refine lv_iload_n hx hb dcX5_putBefore_63 rfl (lv_at hl 3 rfl) ?_
            obtain ⟨v9, z8, hcq, hq⟩ := tw_cl1 hq
            refine uw_cali hU hM (va_runV (As := [.int x3]) (rest := []) ⟨hx, hb, hml, hown, hts⟩ (kc_X5_weigh l D q vl u hU.1 K r0 x3 hr0 z z8 v9 hcq) (cwV 1 hts (tw_gV wC_good xq_438 xq_439 xq_440 xq_403 xq_441) rfl rfl rfl cdd_X5_weigh ⟨(Nat.le_of_ble_eq_true rfl), (Nat.le_of_ble_eq_true rfl)⟩) (cw_preV hK hM (co_X5 hr0) rfl) rfl rfl hl.1 rfl (lv_room (Nat.le_of_ble_eq_true rfl)) dcX5_putBefore_64 ⟨(Nat.le_of_ble_eq_true rfl), (Nat.le_of_ble_eq_true rfl)⟩) (fun H locs hM => ?_)
            refine lv_istore_n (lv' := [(2, .int v9), (0, .ref (u r0)), (1, .int x1), (3, .int x3)]) hx hb dcX5_putBefore_67 rfl hl (by decide) rfl (fun ls hl => ?_)
            refine lv_iinc (v := (x3 + 1)) (lv' := [(3, .int (x3 + 1)), (2, .int v9), (0, .ref (u r0)), (1, .int x1)]) hx hb dcX5_putBefore_68 hl (k := 3) rfl rfl (by decide) rfl (fun ls hl => ?_)
            refine lv_goto (tgt := 48) hx hb dcX5_putBefore_71 (by decide) ?_
            exact ih_1 x1 v9 (x3 + 1) r0 z8 H locs ls hr0 hM (lv_sub hl [2, 3, 1, 0] rfl) hq
      · intro x1 x2 x3 r0 z H locs ls hr0 hM hl hq
        have hq : cm_X5_putBefore_2 vl K (c_X5_putBefore vl K k) x1 x2 x3 r0 z = some z1 := hq
        unfold cm_X5_putBefore_2 at hq
        refine lv_aload_n hx hb dcX5_putBefore_74 rfl (lv_at hl 0 rfl) ?_
        obtain ⟨z10, hcq, hq⟩ := tw_cl0 hq
        refine uw_calv hU hM (va_runV (As := []) (rest := []) ⟨hx, hb, hml, hown, hts⟩ (kc_X5_strip l D q vl u hU.1 K r0 hr0 z z10 hcq) (cwV 0 hts (tw_gV wC_good xq_446 xq_447 xq_448 xq_403 xq_449) rfl rfl rfl cdd_X5_strip ⟨(Nat.le_of_ble_eq_true rfl), (Nat.le_of_ble_eq_true rfl)⟩) (cw_preV hK hM (co_X5 hr0) rfl) rfl rfl hl.1 rfl (lv_room (Nat.le_of_ble_eq_true rfl)) dcX5_putBefore_75 ⟨(Nat.le_of_ble_eq_true rfl), (Nat.le_of_ble_eq_true rfl)⟩) (fun H locs hM => ?_)
        exact cw_vret hx hb hr hlocks hM hq hQQ dcX5_putBefore_78
  exact (key K).1 x1 0 0 r0 z s.heap [] ls hr0 hM (lv_sub hl [0, 1] rfl) hq
theorem dcX5_cycle_0 : decode cX5_cycle 0 = .ok (.aload_n 0, 1) := dw_at cX5_cycle_k0 (p := 0) rfl (by decide +kernel)
theorem dcX5_cycle_1 : decode cX5_cycle 1 = .ok (.getfield 32, 3) := dw_at cX5_cycle_k0 (p := 1) rfl (by decide +kernel)
theorem dcX5_cycle_4 : decode cX5_cycle 4 = .ok (.ifCond .le 67, 3) := dw_at cX5_cycle_k0 (p := 4) rfl (by decide +kernel)
theorem dcX5_cycle_7 : decode cX5_cycle 7 = .ok (.aload_n 0, 1) := dw_at cX5_cycle_k0 (p := 7) rfl (by decide +kernel)
theorem dcX5_cycle_8 : decode cX5_cycle 8 = .ok (.getfield 29, 3) := dw_at cX5_cycle_k0 (p := 8) rfl (by decide +kernel)
theorem dcX5_cycle_11 : decode cX5_cycle 11 = .ok (.iconst 1, 1) := dw_at cX5_cycle_k0 (p := 11) rfl (by decide +kernel)
theorem dcX5_cycle_12 : decode cX5_cycle 12 = .ok (.iand, 1) := dw_at cX5_cycle_k0 (p := 12) rfl (by decide +kernel)
theorem dcX5_cycle_13 : decode cX5_cycle 13 = .ok (.ifCond .ne 12, 3) := dw_at cX5_cycle_k0 (p := 13) rfl (by decide +kernel)
theorem dcX5_cycle_16 : decode cX5_cycle 16 = .ok (.aload_n 0, 1) := dw_at cX5_cycle_k0 (p := 16) rfl (by decide +kernel)
theorem dcX5_cycle_17 : decode cX5_cycle 17 = .ok (.getfield 11, 3) := dw_at cX5_cycle_k0 (p := 17) rfl (by decide +kernel)
theorem dcX5_cycle_20 : decode cX5_cycle 20 = .ok (.iconst 0, 1) := dw_at cX5_cycle_k0 (p := 20) rfl (by decide +kernel)
theorem dcX5_cycle_21 : decode cX5_cycle 21 = .ok (.iaload, 1) := dw_at cX5_cycle_k0 (p := 21) rfl (by decide +kernel)
theorem dcX5_cycle_22 : decode cX5_cycle 22 = .ok (.goto 16, 3) := dw_at cX5_cycle_k0 (p := 22) rfl (by decide +kernel)
theorem dcX5_cycle_25 : decode cX5_cycle 25 = .ok (.aload_n 0, 1) := dw_at cX5_cycle_k1 (p := 0) rfl (by decide +kernel)
theorem dcX5_cycle_26 : decode cX5_cycle 26 = .ok (.getfield 11, 3) := dw_at cX5_cycle_k1 (p := 1) rfl (by decide +kernel)
theorem dcX5_cycle_29 : decode cX5_cycle 29 = .ok (.iconst 0, 1) := dw_at cX5_cycle_k1 (p := 4) rfl (by decide +kernel)
theorem dcX5_cycle_30 : decode cX5_cycle 30 = .ok (.iaload, 1) := dw_at cX5_cycle_k1 (p := 5) rfl (by decide +kernel)
theorem dcX5_cycle_31 : decode cX5_cycle 31 = .ok (.aload_n 0, 1) := dw_at cX5_cycle_k1 (p := 6) rfl (by decide +kernel)
theorem dcX5_cycle_32 : decode cX5_cycle 32 = .ok (.getfield 25, 3) := dw_at cX5_cycle_k1 (p := 7) rfl (by decide +kernel)
theorem dcX5_cycle_35 : decode cX5_cycle 35 = .ok (.invokestatic 66, 3) := dw_at cX5_cycle_k1 (p := 10) rfl (by decide +kernel)
theorem dcX5_cycle_38 : decode cX5_cycle 38 = .ok (.istore_n 1, 1) := dw_at cX5_cycle_k1 (p := 13) rfl (by decide +kernel)
theorem dcX5_cycle_39 : decode cX5_cycle 39 = .ok (.aload_n 0, 1) := dw_at cX5_cycle_k1 (p := 14) rfl (by decide +kernel)
theorem dcX5_cycle_40 : decode cX5_cycle 40 = .ok (.dup, 1) := dw_at cX5_cycle_k1 (p := 15) rfl (by decide +kernel)
theorem dcX5_cycle_41 : decode cX5_cycle 41 = .ok (.getfield 32, 3) := dw_at cX5_cycle_k1 (p := 16) rfl (by decide +kernel)
theorem dcX5_cycle_44 : decode cX5_cycle 44 = .ok (.iconst 1, 1) := dw_at cX5_cycle_k1 (p := 19) rfl (by decide +kernel)
theorem dcX5_cycle_45 : decode cX5_cycle 45 = .ok (.isub, 1) := dw_at cX5_cycle_k1 (p := 20) rfl (by decide +kernel)
theorem dcX5_cycle_46 : decode cX5_cycle 46 = .ok (.putfield 32, 3) := dw_at cX5_cycle_k1 (p := 21) rfl (by decide +kernel)
theorem dcX5_cycle_49 : decode cX5_cycle 49 = .ok (.aload_n 0, 1) := dw_at cX5_cycle_k2 (p := 0) rfl (by decide +kernel)
theorem dcX5_cycle_50 : decode cX5_cycle 50 = .ok (.getfield 11, 3) := dw_at cX5_cycle_k2 (p := 1) rfl (by decide +kernel)
theorem dcX5_cycle_53 : decode cX5_cycle 53 = .ok (.iconst 1, 1) := dw_at cX5_cycle_k2 (p := 4) rfl (by decide +kernel)
theorem dcX5_cycle_54 : decode cX5_cycle 54 = .ok (.aload_n 0, 1) := dw_at cX5_cycle_k2 (p := 5) rfl (by decide +kernel)
theorem dcX5_cycle_55 : decode cX5_cycle 55 = .ok (.getfield 11, 3) := dw_at cX5_cycle_k2 (p := 6) rfl (by decide +kernel)
theorem dcX5_cycle_58 : decode cX5_cycle 58 = .ok (.iconst 0, 1) := dw_at cX5_cycle_k2 (p := 9) rfl (by decide +kernel)
theorem dcX5_cycle_59 : decode cX5_cycle 59 = .ok (.aload_n 0, 1) := dw_at cX5_cycle_k2 (p := 10) rfl (by decide +kernel)
theorem dcX5_cycle_60 : decode cX5_cycle 60 = .ok (.getfield 32, 3) := dw_at cX5_cycle_k2 (p := 11) rfl (by decide +kernel)
theorem dcX5_cycle_63 : decode cX5_cycle 63 = .ok (.invokestatic 52, 3) := dw_at cX5_cycle_k2 (p := 14) rfl (by decide +kernel)
theorem dcX5_cycle_66 : decode cX5_cycle 66 = .ok (.aload_n 0, 1) := dw_at cX5_cycle_k2 (p := 17) rfl (by decide +kernel)
theorem dcX5_cycle_67 : decode cX5_cycle 67 = .ok (.iload_n 1, 1) := dw_at cX5_cycle_k2 (p := 18) rfl (by decide +kernel)
theorem dcX5_cycle_68 : decode cX5_cycle 68 = .ok (.invokevirtual 63, 3) := dw_at cX5_cycle_k2 (p := 19) rfl (by decide +kernel)
theorem dcX5_cycle_71 : decode cX5_cycle 71 = .ok (.return_, 1) := dw_at cX5_cycle_k2 (p := 22) rfl (by decide +kernel)
def cm_X5_cycle_0 (vl : Nat → Nat) (K : Nat) (go : Nat → Nat → Int32 → ow_MS → Option ow_MS) (r0 : Nat) (t0 : Int32) (z : ow_MS) : Option ow_MS :=
 rdF z (r0 + 3) fun v1 => (if v1 ≤ 0 then some z
 else rdF z (r0 + 2) fun v2 => (if (v2 &&& 1) = 0 then crI (cX vl) z (r0 + 4) 0 fun v7 => go 1 r0 v7 z
 else crI (cX vl) z (r0 + 4) 0 fun v3 => rdF z (r0 + 1) fun v4 => cs1 (ce_X5_turned vl K v3 v4 z) fun v6 z5 => go 1 r0 v6 z5))
def cm_X5_cycle_1 (vl : Nat → Nat) (K : Nat) (go : Nat → Nat → Int32 → ow_MS → Option ow_MS) (r0 : Nat) (t0 : Int32) (z : ow_MS) : Option ow_MS :=
 rdF z (r0 + 3) fun v8 => wrF z (r0 + 3) (v8 - 1) fun z9 => rdF z9 (r0 + 3) fun v10 => cpI (cX vl) z9 (r0 + 4) 1 (r0 + 4) 0 v10 fun z11 => cs0 (ce_X5_putBehind vl K r0 t0 z11) fun z12 => some z12
def cb_X5_cycle (vl : Nat → Nat) (K : Nat) (go : Nat → Nat → Int32 → ow_MS → Option ow_MS) (L : Nat) (r0 : Nat) (t0 : Int32) (z : ow_MS) : Option ow_MS := match L with
  | 0 => cm_X5_cycle_0 vl K go r0 t0 z
  | 1 => cm_X5_cycle_1 vl K go r0 t0 z
  | _ => none
def c_X5_cycle (vl : Nat → Nat) (K : Nat) : Nat → Nat → Nat → Int32 → ow_MS → Option ow_MS
  | 0 => fun _ _ _ _ => none
  | k + 1 => cb_X5_cycle vl K (c_X5_cycle vl K k)
def ce_X5_cycle (vl : Nat → Nat) (K : Nat) (r0 : Nat) (z : ow_MS) : Option ow_MS := c_X5_cycle vl K K 0 r0 0 z
abbrev wc_X5_cycle : List Cond := .code yX5_cycle cX5_cycle 2 none :: wC
theorem cdd_X5_cycle : yX5_cycle.cls = RX5 ∧ yX5_cycle.cls ≠ "java/lang/invoke/MethodHandle" ∧ yX5_cycle.cls ≠ "java/lang/invoke/VarHandle" ∧ (parseMethodDescriptor yX5_cycle.desc).map (fun d => d.parameters.length) = some 0 := by decide +kernel
set_option maxHeartbeats 4000000 in
set_option maxRecDepth 100000 in
theorem kc_X5_cycle (l : Launch) (D : va_G) (q : Nat → ClassId) (vl u : Nat → Nat) (hU0 : tw_inj (cX vl) u) (K : Nat) (r0 : Nat) (hr0 : cw_X5 r0) (z z1 : ow_MS) (hq : ce_X5_cycle vl K r0 z = some z1) : Met l yX5_cycle wc_X5_cycle ({ frames := 4, cells := 0, slots := 0, locals := 104 } : Room) (va_Pc [.ref (u r0)] (cw_pre D q vl u z)) (va_Qv (fun (_ : Unit) => True) (fun _ t => va_P D vwCl (uw (cX vl) q u z1) t.heap) (tw_A (cX vl) u)) 0 0 (tw_A (cX vl) u) := by
  refine Met.ofW (cc := cX5_cycle) (maxL := 2) (ret := none) (by decide) rfl ?_
  intro p e s m args below meth c s₁ B hml hv
  obtain ⟨rfl, hP, hK⟩ := hv
  have hx := B.exec
  have hb := B.bytes
  have hr := B.returns
  have hts := atoms_spec (ws := wc_X5_cycle) B.pre
  have hT : ∀ w ∈ wC, w.before ([.ref (u r0)] : List Value).toArray s = true := fun w h => hts w (List.mem_cons_of_mem _ h)
  have hown : s.vm.findClass RX5 = some m.cls := findClass_of_methodNamed B.named
  have hlocks := B.notSynchronized
  have hU : uw_inj (cX vl) u (tw_A (cX vl) u) := ⟨hU0, fun h hh => ⟨h, hh, rfl⟩⟩
  have hM : uw_M D vwCl (cX vl) q (tw_A (cX vl) u) s.heap u z s.heap [] := ⟨hP, va_S.rf⟩
  have hl := lv_entry ([.ref (u r0)]) (n := 2) (Nat.le_of_ble_eq_true rfl)
  rw [lg_entry_eq]
  generalize (lg_sl ([.ref (u r0)]) ++ List.replicate (2 - (lg_sl ([.ref (u r0)])).length) Slot.unset).toArray = ls at hl ⊢
  have hl : lv_has ls 2 [(0, .ref (u r0))] := hl
  refine ow_named (fun QQ hQQ => ?_)
  generalize ([.ref (u r0)] : List Value).toArray = args at hts hT hQQ ⊢
  have key : ∀ k : Nat, (∀ (r0 : Nat) (t0 : Int32) (z : ow_MS) (H : Heap) (locs : List Loc) (ls : Array Slot), cw_X5 r0 → uw_M D vwCl (cX vl) q (tw_A (cX vl) u) s.heap u z H locs → lv_has ls 2 [(0, .ref (u r0))] → c_X5_cycle vl K k 0 r0 t0 z = some z1 → W p l e ({ frames := 4, cells := 0, slots := 0, locals := 104 } : Room) s m args below meth c H locs 0 0 QQ (F0 m 0 ls [])) ∧ (∀ (r0 : Nat) (t0 : Int32) (z : ow_MS) (H : Heap) (locs : List Loc) (ls : Array Slot), cw_X5 r0 → uw_M D vwCl (cX vl) q (tw_A (cX vl) u) s.heap u z H locs → lv_has ls 2 [(0, .ref (u r0))] → c_X5_cycle vl K k 1 r0 t0 z = some z1 → W p l e ({ frames := 4, cells := 0, slots := 0, locals := 104 } : Room) s m args below meth c H locs 0 0 QQ (F0 m 38 ls [.int t0])) := by
    intro k
    induction k with
    | zero => exact ⟨fun _ _ _ _ _ _ _ _ _ hq => cw_no hq, fun _ _ _ _ _ _ _ _ _ hq => cw_no hq⟩
    | succ k ih =>
      obtain ⟨ih_0, ih_1⟩ := ih
      refine ⟨?_, ?_⟩
      · intro r0 t0 z H locs ls hr0 hM hl hq
        have hq : cm_X5_cycle_0 vl K (c_X5_cycle vl K k) r0 t0 z = some z1 := hq
        unfold cm_X5_cycle_0 at hq
        refine lv_aload_n hx hb dcX5_cycle_0 rfl (lv_at hl 0 rfl) ?_
        refine vgX5_32 hx hb hT hown hK hM hr0 hq dcX5_cycle_1 (fun v1 hq => ?_)
        refine lv_if_le (tgt := 71) hx hb dcX5_cycle_4 (by decide) (fun hc => ?_) (fun hc => ?_)
        · have hq := tw_it hq hc
          exact cw_vret hx hb hr hlocks hM hq hQQ dcX5_cycle_71
        · have hq := tw_if hq hc
          refine lv_aload_n hx hb dcX5_cycle_7 rfl (lv_at hl 0 rfl) ?_
          refine vgX5_29 hx hb hT hown hK hM hr0 hq dcX5_cycle_8 (fun v2 hq => ?_)
          refine lv_iconst (v := 1) hx hb dcX5_cycle_11 (by decide) ?_
          refine lv_iand hx hb dcX5_cycle_12 ?_
          refine lv_if_ne (tgt := 25) hx hb dcX5_cycle_13 (by decide) (fun hc => ?_) (fun hc => ?_)
          · have hq := tw_if hq hc
            refine lv_aload_n hx hb dcX5_cycle_25 rfl (lv_at hl 0 rfl) ?_
            refine vgX5_11 hx hb hT hown hK hM hr0 dcX5_cycle_26 ?_
            refine lv_iconst (v := 0) hx hb dcX5_cycle_29 (by decide) ?_
            refine uw_iald cX_ok hx hb hK hM (cr_X5_3 hr0) hq dcX5_cycle_30 (fun v3 hq => ?_)
            refine lv_aload_n hx hb dcX5_cycle_31 rfl (lv_at hl 0 rfl) ?_
            refine vgX5_25 hx hb hT hown hK hM hr0 hq dcX5_cycle_32 (fun v4 hq => ?_)
            obtain ⟨v6, z5, hcq, hq⟩ := tw_cl1 hq
            refine uw_cali hU hM (va_runS (As := [.int v3, .int v4]) (rest := []) ⟨hx, hb, hml, hown, hts⟩ (kc_X5_turned l D q vl u hU.1 K v3 v4 z z5 v6 hcq) (va_cwS 2 hts (tw_gS wC_good xq_450 xq_451 xq_403 xq_407) rfl rfl rfl cdd_X5_turned ⟨(Nat.le_of_ble_eq_true rfl), (Nat.le_of_ble_eq_true rfl)⟩) (cw_preS hK hM) rfl rfl hl.1 rfl (lv_room (Nat.le_of_ble_eq_true rfl)) dcX5_cycle_35 ⟨(Nat.le_of_ble_eq_true rfl), (Nat.le_of_ble_eq_true rfl)⟩) (fun H locs hM => ?_)
            exact ih_1 r0 v6 z5 H locs ls hr0 hM (lv_sub hl [0] rfl) hq
          · have hq := tw_it hq hc
            refine lv_aload_n hx hb dcX5_cycle_16 rfl (lv_at hl 0 rfl) ?_
            refine vgX5_11 hx hb hT hown hK hM hr0 dcX5_cycle_17 ?_
            refine lv_iconst (v := 0) hx hb dcX5_cycle_20 (by decide) ?_
            refine uw_iald cX_ok hx hb hK hM (cr_X5_3 hr0) hq dcX5_cycle_21 (fun v7 hq => ?_)
            refine lv_goto (tgt := 38) hx hb dcX5_cycle_22 (by decide) ?_
            exact ih_1 r0 v7 z H locs ls hr0 hM (lv_sub hl [0] rfl) hq
      · intro r0 t0 z H locs ls hr0 hM hl hq
        have hq : cm_X5_cycle_1 vl K (c_X5_cycle vl K k) r0 t0 z = some z1 := hq
        unfold cm_X5_cycle_1 at hq
        refine lv_istore_n (lv' := [(1, .int t0), (0, .ref (u r0))]) hx hb dcX5_cycle_38 rfl hl (by decide) rfl (fun ls hl => ?_)
        refine lv_aload_n hx hb dcX5_cycle_39 rfl (lv_at hl 1 rfl) ?_
        refine lv_dup hx hb dcX5_cycle_40 rfl ?_
        refine vgX5_32 hx hb hT hown hK hM hr0 hq dcX5_cycle_41 (fun v8 hq => ?_)
        refine lv_iconst (v := 1) hx hb dcX5_cycle_44 (by decide) ?_
        refine lv_isub hx hb dcX5_cycle_45 ?_
        refine vpX5_32 hx hb hT hown hK hM hU hr0 hq dcX5_cycle_46 (fun z9 H locs hM hq => ?_)
        refine lv_aload_n hx hb dcX5_cycle_49 rfl (lv_at hl 1 rfl) ?_
        refine vgX5_11 hx hb hT hown hK hM hr0 dcX5_cycle_50 ?_
        refine lv_iconst (v := 1) hx hb dcX5_cycle_53 (by decide) ?_
        refine lv_aload_n hx hb dcX5_cycle_54 rfl (lv_at hl 1 rfl) ?_
        refine vgX5_11 hx hb hT hown hK hM hr0 dcX5_cycle_55 ?_
        refine lv_iconst (v := 0) hx hb dcX5_cycle_58 (by decide) ?_
        refine lv_aload_n hx hb dcX5_cycle_59 rfl (lv_at hl 1 rfl) ?_
        refine vgX5_32 hx hb hT hown hK hM hr0 hq dcX5_cycle_60 (fun v10 hq => ?_)
        refine uw_cpI cX_ok hU hx hb (by rw [hml]; exact hl.1.symm) hown (hT _ xq_425) (hT _ xq_130) (hT _ xq_131) (hT _ xq_132) hK hM (cr_X5_3 hr0) (cr_X5_3 hr0) hq (Nat.le_of_ble_eq_true rfl) (by decide) dcX5_cycle_63 (fun z11 H locs hM hq => ?_)
        refine lv_aload_n hx hb dcX5_cycle_66 rfl (lv_at hl 1 rfl) ?_
        refine lv_iload_n hx hb dcX5_cycle_67 rfl (lv_at hl 0 rfl) ?_
        obtain ⟨z12, hcq, hq⟩ := tw_cl0 hq
        refine uw_calv hU hM (va_runV (As := [.int t0]) (rest := []) ⟨hx, hb, hml, hown, hts⟩ (kc_X5_putBehind l D q vl u hU.1 K r0 t0 hr0 z11 z12 hcq) (cwV 1 hts (tw_gV wC_good xq_434 xq_435 xq_436 xq_403 xq_437) rfl rfl rfl cdd_X5_putBehind ⟨(Nat.le_of_ble_eq_true rfl), (Nat.le_of_ble_eq_true rfl)⟩) (cw_preV hK hM (co_X5 hr0) rfl) rfl rfl hl.1 rfl (lv_room (Nat.le_of_ble_eq_true rfl)) dcX5_cycle_68 ⟨(Nat.le_of_ble_eq_true rfl), (Nat.le_of_ble_eq_true rfl)⟩) (fun H locs hM => ?_)
        exact cw_vret hx hb hr hlocks hM hq hQQ dcX5_cycle_71
  exact (key K).1 r0 0 z s.heap [] ls hr0 hM (lv_sub hl [0] rfl) hq
theorem dcX5_decycle_0 : decode cX5_decycle 0 = .ok (.aload_n 0, 1) := dw_at cX5_decycle_k0 (p := 0) rfl (by decide +kernel)
theorem dcX5_decycle_1 : decode cX5_decycle 1 = .ok (.getfield 32, 3) := dw_at cX5_decycle_k0 (p := 1) rfl (by decide +kernel)
theorem dcX5_decycle_4 : decode cX5_decycle 4 = .ok (.ifCond .le 50, 3) := dw_at cX5_decycle_k0 (p := 4) rfl (by decide +kernel)
theorem dcX5_decycle_7 : decode cX5_decycle 7 = .ok (.aload_n 0, 1) := dw_at cX5_decycle_k0 (p := 7) rfl (by decide +kernel)
theorem dcX5_decycle_8 : decode cX5_decycle 8 = .ok (.getfield 11, 3) := dw_at cX5_decycle_k0 (p := 8) rfl (by decide +kernel)
theorem dcX5_decycle_11 : decode cX5_decycle 11 = .ok (.aload_n 0, 1) := dw_at cX5_decycle_k0 (p := 11) rfl (by decide +kernel)
theorem dcX5_decycle_12 : decode cX5_decycle 12 = .ok (.getfield 32, 3) := dw_at cX5_decycle_k0 (p := 12) rfl (by decide +kernel)
theorem dcX5_decycle_15 : decode cX5_decycle 15 = .ok (.iconst 1, 1) := dw_at cX5_decycle_k0 (p := 15) rfl (by decide +kernel)
theorem dcX5_decycle_16 : decode cX5_decycle 16 = .ok (.isub, 1) := dw_at cX5_decycle_k0 (p := 16) rfl (by decide +kernel)
theorem dcX5_decycle_17 : decode cX5_decycle 17 = .ok (.iaload, 1) := dw_at cX5_decycle_k0 (p := 17) rfl (by decide +kernel)
theorem dcX5_decycle_18 : decode cX5_decycle 18 = .ok (.istore_n 1, 1) := dw_at cX5_decycle_k0 (p := 18) rfl (by decide +kernel)
theorem dcX5_decycle_19 : decode cX5_decycle 19 = .ok (.aload_n 0, 1) := dw_at cX5_decycle_k0 (p := 19) rfl (by decide +kernel)
theorem dcX5_decycle_20 : decode cX5_decycle 20 = .ok (.dup, 1) := dw_at cX5_decycle_k0 (p := 20) rfl (by decide +kernel)
theorem dcX5_decycle_21 : decode cX5_decycle 21 = .ok (.getfield 32, 3) := dw_at cX5_decycle_k0 (p := 21) rfl (by decide +kernel)
theorem dcX5_decycle_24 : decode cX5_decycle 24 = .ok (.iconst 1, 1) := dw_at cX5_decycle_k1 (p := 0) rfl (by decide +kernel)
theorem dcX5_decycle_25 : decode cX5_decycle 25 = .ok (.isub, 1) := dw_at cX5_decycle_k1 (p := 1) rfl (by decide +kernel)
theorem dcX5_decycle_26 : decode cX5_decycle 26 = .ok (.putfield 32, 3) := dw_at cX5_decycle_k1 (p := 2) rfl (by decide +kernel)
theorem dcX5_decycle_29 : decode cX5_decycle 29 = .ok (.aload_n 0, 1) := dw_at cX5_decycle_k1 (p := 5) rfl (by decide +kernel)
theorem dcX5_decycle_30 : decode cX5_decycle 30 = .ok (.aload_n 0, 1) := dw_at cX5_decycle_k1 (p := 6) rfl (by decide +kernel)
theorem dcX5_decycle_31 : decode cX5_decycle 31 = .ok (.getfield 29, 3) := dw_at cX5_decycle_k1 (p := 7) rfl (by decide +kernel)
theorem dcX5_decycle_34 : decode cX5_decycle 34 = .ok (.iconst 1, 1) := dw_at cX5_decycle_k1 (p := 10) rfl (by decide +kernel)
theorem dcX5_decycle_35 : decode cX5_decycle 35 = .ok (.iand, 1) := dw_at cX5_decycle_k1 (p := 11) rfl (by decide +kernel)
theorem dcX5_decycle_36 : decode cX5_decycle 36 = .ok (.ifCond .ne 7, 3) := dw_at cX5_decycle_k1 (p := 12) rfl (by decide +kernel)
theorem dcX5_decycle_39 : decode cX5_decycle 39 = .ok (.iload_n 1, 1) := dw_at cX5_decycle_k1 (p := 15) rfl (by decide +kernel)
theorem dcX5_decycle_40 : decode cX5_decycle 40 = .ok (.goto 11, 3) := dw_at cX5_decycle_k1 (p := 16) rfl (by decide +kernel)
theorem dcX5_decycle_43 : decode cX5_decycle 43 = .ok (.iload_n 1, 1) := dw_at cX5_decycle_k1 (p := 19) rfl (by decide +kernel)
theorem dcX5_decycle_44 : decode cX5_decycle 44 = .ok (.aload_n 0, 1) := dw_at cX5_decycle_k1 (p := 20) rfl (by decide +kernel)
theorem dcX5_decycle_45 : decode cX5_decycle 45 = .ok (.getfield 25, 3) := dw_at cX5_decycle_k1 (p := 21) rfl (by decide +kernel)
theorem dcX5_decycle_48 : decode cX5_decycle 48 = .ok (.invokestatic 66, 3) := dw_at cX5_decycle_k1 (p := 24) rfl (by decide +kernel)
theorem dcX5_decycle_51 : decode cX5_decycle 51 = .ok (.invokevirtual 83, 3) := dw_at cX5_decycle_k1 (p := 27) rfl (by decide +kernel)
theorem dcX5_decycle_54 : decode cX5_decycle 54 = .ok (.return_, 1) := dw_at cX5_decycle_k1 (p := 30) rfl (by decide +kernel)
def cm_X5_decycle_0 (vl : Nat → Nat) (K : Nat) (go : Nat → Int32 → Nat → Int32 → ow_MS → Option ow_MS) (x1 : Int32) (r0 : Nat) (t0 : Int32) (z : ow_MS) : Option ow_MS :=
 rdF z (r0 + 3) fun v1 => (if v1 ≤ 0 then some z
 else rdF z (r0 + 3) fun v2 => crI (cX vl) z (r0 + 4) (v2 - 1) fun v3 => rdF z (r0 + 3) fun v4 => wrF z (r0 + 3) (v4 - 1) fun z5 => rdF z5 (r0 + 2) fun v6 => (if (v6 &&& 1) = 0 then go 1 v3 r0 v3 z5
 else rdF z5 (r0 + 1) fun v7 => cs1 (ce_X5_turned vl K v3 v7 z5) fun v9 z8 => go 1 v3 r0 v9 z8))
def cm_X5_decycle_1 (vl : Nat → Nat) (K : Nat) (go : Nat → Int32 → Nat → Int32 → ow_MS → Option ow_MS) (x1 : Int32) (r0 : Nat) (t0 : Int32) (z : ow_MS) : Option ow_MS :=
 cs0 (ce_X5_putBefore vl K r0 t0 z) fun z10 => some z10
def cb_X5_decycle (vl : Nat → Nat) (K : Nat) (go : Nat → Int32 → Nat → Int32 → ow_MS → Option ow_MS) (L : Nat) (x1 : Int32) (r0 : Nat) (t0 : Int32) (z : ow_MS) : Option ow_MS := match L with
  | 0 => cm_X5_decycle_0 vl K go x1 r0 t0 z
  | 1 => cm_X5_decycle_1 vl K go x1 r0 t0 z
  | _ => none
def c_X5_decycle (vl : Nat → Nat) (K : Nat) : Nat → Nat → Int32 → Nat → Int32 → ow_MS → Option ow_MS
  | 0 => fun _ _ _ _ _ => none
  | k + 1 => cb_X5_decycle vl K (c_X5_decycle vl K k)
def ce_X5_decycle (vl : Nat → Nat) (K : Nat) (r0 : Nat) (z : ow_MS) : Option ow_MS := c_X5_decycle vl K K 0 0 r0 0 z
abbrev wc_X5_decycle : List Cond := .code yX5_decycle cX5_decycle 2 none :: wC
theorem cdd_X5_decycle : yX5_decycle.cls = RX5 ∧ yX5_decycle.cls ≠ "java/lang/invoke/MethodHandle" ∧ yX5_decycle.cls ≠ "java/lang/invoke/VarHandle" ∧ (parseMethodDescriptor yX5_decycle.desc).map (fun d => d.parameters.length) = some 0 := by decide +kernel
set_option maxHeartbeats 4000000 in
set_option maxRecDepth 100000 in
theorem kc_X5_decycle (l : Launch) (D : va_G) (q : Nat → ClassId) (vl u : Nat → Nat) (hU0 : tw_inj (cX vl) u) (K : Nat) (r0 : Nat) (hr0 : cw_X5 r0) (z z1 : ow_MS) (hq : ce_X5_decycle vl K r0 z = some z1) : Met l yX5_decycle wc_X5_decycle ({ frames := 4, cells := 0, slots := 0, locals := 104 } : Room) (va_Pc [.ref (u r0)] (cw_pre D q vl u z)) (va_Qv (fun (_ : Unit) => True) (fun _ t => va_P D vwCl (uw (cX vl) q u z1) t.heap) (tw_A (cX vl) u)) 0 0 (tw_A (cX vl) u) := by
  refine Met.ofW (cc := cX5_decycle) (maxL := 2) (ret := none) (by decide) rfl ?_
  intro p e s m args below meth c s₁ B hml hv
  obtain ⟨rfl, hP, hK⟩ := hv
  have hx := B.exec
  have hb := B.bytes
  have hr := B.returns
  have hts := atoms_spec (ws := wc_X5_decycle) B.pre
  have hT : ∀ w ∈ wC, w.before ([.ref (u r0)] : List Value).toArray s = true := fun w h => hts w (List.mem_cons_of_mem _ h)
  have hown : s.vm.findClass RX5 = some m.cls := findClass_of_methodNamed B.named
  have hlocks := B.notSynchronized
  have hU : uw_inj (cX vl) u (tw_A (cX vl) u) := ⟨hU0, fun h hh => ⟨h, hh, rfl⟩⟩
  have hM : uw_M D vwCl (cX vl) q (tw_A (cX vl) u) s.heap u z s.heap [] := ⟨hP, va_S.rf⟩
  have hl := lv_entry ([.ref (u r0)]) (n := 2) (Nat.le_of_ble_eq_true rfl)
  rw [lg_entry_eq]
  generalize (lg_sl ([.ref (u r0)]) ++ List.replicate (2 - (lg_sl ([.ref (u r0)])).length) Slot.unset).toArray = ls at hl ⊢
  have hl : lv_has ls 2 [(0, .ref (u r0))] := hl
  refine ow_named (fun QQ hQQ => ?_)
  generalize ([.ref (u r0)] : List Value).toArray = args at hts hT hQQ ⊢
  have key : ∀ k : Nat, (∀ (x1 : Int32) (r0 : Nat) (t0 : Int32) (z : ow_MS) (H : Heap) (locs : List Loc) (ls : Array Slot), cw_X5 r0 → uw_M D vwCl (cX vl) q (tw_A (cX vl) u) s.heap u z H locs → lv_has ls 2 [(0, .ref (u r0))] → c_X5_decycle vl K k 0 x1 r0 t0 z = some z1 → W p l e ({ frames := 4, cells := 0, slots := 0, locals := 104 } : Room) s m args below meth c H locs 0 0 QQ (F0 m 0 ls [])) ∧ (∀ (x1 : Int32) (r0 : Nat) (t0 : Int32) (z : ow_MS) (H : Heap) (locs : List Loc) (ls : Array Slot), cw_X5 r0 → uw_M D vwCl (cX vl) q (tw_A (cX vl) u) s.heap u z H locs → lv_has ls 2 [(0, .ref (u r0)), (1, .int x1)] → c_X5_decycle vl K k 1 x1 r0 t0 z = some z1 → W p l e ({ frames := 4, cells := 0, slots := 0, locals := 104 } : Room) s m args below meth c H locs 0 0 QQ (F0 m 51 ls [.int t0, .ref (u r0)])) := by
    intro k
    induction k with
    | zero => exact ⟨fun _ _ _ _ _ _ _ _ _ _ hq => cw_no hq, fun _ _ _ _ _ _ _ _ _ _ hq => cw_no hq⟩
    | succ k ih =>
      obtain ⟨ih_0, ih_1⟩ := ih
      refine ⟨?_, ?_⟩
      · intro x1 r0 t0 z H locs ls hr0 hM hl hq
        have hq : cm_X5_decycle_0 vl K (c_X5_decycle vl K k) x1 r0 t0 z = some z1 := hq
        unfold cm_X5_decycle_0 at hq
        refine lv_aload_n hx hb dcX5_decycle_0 rfl (lv_at hl 0 rfl) ?_
        refine vgX5_32 hx hb hT hown hK hM hr0 hq dcX5_decycle_1 (fun v1 hq => ?_)
        refine lv_if_le (tgt := 54) hx hb dcX5_decycle_4 (by decide) (fun hc => ?_) (fun hc => ?_)
        · have hq := tw_it hq hc
          exact cw_vret hx hb hr hlocks hM hq hQQ dcX5_decycle_54
        · have hq := tw_if hq hc
          refine lv_aload_n hx hb dcX5_decycle_7 rfl (lv_at hl 0 rfl) ?_
          refine vgX5_11 hx hb hT hown hK hM hr0 dcX5_decycle_8 ?_
          refine lv_aload_n hx hb dcX5_decycle_11 rfl (lv_at hl 0 rfl) ?_
          refine vgX5_32 hx hb hT hown hK hM hr0 hq dcX5_decycle_12 (fun v2 hq => ?_)
          refine lv_iconst (v := 1) hx hb dcX5_decycle_15 (by decide) ?_
          refine lv_isub hx hb dcX5_decycle_16 ?_
          refine uw_iald cX_ok hx hb hK hM (cr_X5_3 hr0) hq dcX5_decycle_17 (fun v3 hq => ?_)
          refine lv_istore_n (lv' := [(1, .int v3), (0, .ref (u r0))]) hx hb dcX5_decycle_18 rfl hl (by decide) rfl (fun ls hl => ?_)
          refine lv_aload_n hx hb dcX5_decycle_19 rfl (lv_at hl 1 rfl) ?_
          refine lv_dup hx hb dcX5_decycle_20 rfl ?_
          refine vgX5_32 hx hb hT hown hK hM hr0 hq dcX5_decycle_21 (fun v4 hq => ?_)
          refine lv_iconst (v := 1) hx hb dcX5_decycle_24 (by decide) ?_
          refine lv_isub hx hb dcX5_decycle_25 ?_
          refine vpX5_32 hx hb hT hown hK hM hU hr0 hq dcX5_decycle_26 (fun z5 H locs hM hq => ?_)
          refine lv_aload_n hx hb dcX5_decycle_29 rfl (lv_at hl 1 rfl) ?_
          refine lv_aload_n hx hb dcX5_decycle_30 rfl (lv_at hl 1 rfl) ?_
          refine vgX5_29 hx hb hT hown hK hM hr0 hq dcX5_decycle_31 (fun v6 hq => ?_)
          refine lv_iconst (v := 1) hx hb dcX5_decycle_34 (by decide) ?_
          refine lv_iand hx hb dcX5_decycle_35 ?_
          refine lv_if_ne (tgt := 43) hx hb dcX5_decycle_36 (by decide) (fun hc => ?_) (fun hc => ?_)
          · have hq := tw_if hq hc
            refine lv_iload_n hx hb dcX5_decycle_43 rfl (lv_at hl 0 rfl) ?_
            refine lv_aload_n hx hb dcX5_decycle_44 rfl (lv_at hl 1 rfl) ?_
            refine vgX5_25 hx hb hT hown hK hM hr0 hq dcX5_decycle_45 (fun v7 hq => ?_)
            obtain ⟨v9, z8, hcq, hq⟩ := tw_cl1 hq
            refine uw_cali hU hM (va_runS (As := [.int v3, .int v7]) (rest := [.ref (u r0)]) ⟨hx, hb, hml, hown, hts⟩ (kc_X5_turned l D q vl u hU.1 K v3 v7 z5 z8 v9 hcq) (va_cwS 2 hts (tw_gS wC_good xq_450 xq_451 xq_403 xq_407) rfl rfl rfl cdd_X5_turned ⟨(Nat.le_of_ble_eq_true rfl), (Nat.le_of_ble_eq_true rfl)⟩) (cw_preS hK hM) rfl rfl hl.1 rfl (lv_room (Nat.le_of_ble_eq_true rfl)) dcX5_decycle_48 ⟨(Nat.le_of_ble_eq_true rfl), (Nat.le_of_ble_eq_true rfl)⟩) (fun H locs hM => ?_)
            exact ih_1 v3 r0 v9 z8 H locs ls hr0 hM (lv_sub hl [1, 0] rfl) hq
          · have hq := tw_it hq hc
            refine lv_iload_n hx hb dcX5_decycle_39 rfl (lv_at hl 0 rfl) ?_
            refine lv_goto (tgt := 51) hx hb dcX5_decycle_40 (by decide) ?_
            exact ih_1 v3 r0 v3 z5 H locs ls hr0 hM (lv_sub hl [1, 0] rfl) hq
      · intro x1 r0 t0 z H locs ls hr0 hM hl hq
        have hq : cm_X5_decycle_1 vl K (c_X5_decycle vl K k) x1 r0 t0 z = some z1 := hq
        unfold cm_X5_decycle_1 at hq
        obtain ⟨z10, hcq, hq⟩ := tw_cl0 hq
        refine uw_calv hU hM (va_runV (As := [.int t0]) (rest := []) ⟨hx, hb, hml, hown, hts⟩ (kc_X5_putBefore l D q vl u hU.1 K r0 t0 hr0 z z10 hcq) (cwV 1 hts (tw_gV wC_good xq_457 xq_458 xq_459 xq_403 xq_455) rfl rfl rfl cdd_X5_putBefore ⟨(Nat.le_of_ble_eq_true rfl), (Nat.le_of_ble_eq_true rfl)⟩) (cw_preV hK hM (co_X5 hr0) rfl) rfl rfl hl.1 rfl (lv_room (Nat.le_of_ble_eq_true rfl)) dcX5_decycle_51 ⟨(Nat.le_of_ble_eq_true rfl), (Nat.le_of_ble_eq_true rfl)⟩) (fun H locs hM => ?_)
        exact cw_vret hx hb hr hlocks hM hq hQQ dcX5_decycle_54
  exact (key K).1 0 r0 0 z s.heap [] ls hr0 hM (lv_sub hl [0] rfl) hq
theorem dcX5_conjugateBy_0 : decode cX5_conjugateBy 0 = .ok (.iload_n 1, 1) := dw_at cX5_conjugateBy_k0 (p := 0) rfl (by decide +kernel)
theorem dcX5_conjugateBy_1 : decode cX5_conjugateBy 1 = .ok (.aload_n 0, 1) := dw_at cX5_conjugateBy_k0 (p := 1) rfl (by decide +kernel)
theorem dcX5_conjugateBy_2 : decode cX5_conjugateBy 2 = .ok (.getfield 25, 3) := dw_at cX5_conjugateBy_k0 (p := 2) rfl (by decide +kernel)
theorem dcX5_conjugateBy_5 : decode cX5_conjugateBy 5 = .ok (.invokestatic 19, 3) := dw_at cX5_conjugateBy_k0 (p := 5) rfl (by decide +kernel)
theorem dcX5_conjugateBy_8 : decode cX5_conjugateBy 8 = .ok (.istore_n 2, 1) := dw_at cX5_conjugateBy_k0 (p := 8) rfl (by decide +kernel)
theorem dcX5_conjugateBy_9 : decode cX5_conjugateBy 9 = .ok (.iconst 0, 1) := dw_at cX5_conjugateBy_k0 (p := 9) rfl (by decide +kernel)
theorem dcX5_conjugateBy_10 : decode cX5_conjugateBy 10 = .ok (.istore_n 3, 1) := dw_at cX5_conjugateBy_k0 (p := 10) rfl (by decide +kernel)
theorem dcX5_conjugateBy_11 : decode cX5_conjugateBy 11 = .ok (.iconst 0, 1) := dw_at cX5_conjugateBy_k0 (p := 11) rfl (by decide +kernel)
theorem dcX5_conjugateBy_12 : decode cX5_conjugateBy 12 = .ok (.istore 4, 2) := dw_at cX5_conjugateBy_k0 (p := 12) rfl (by decide +kernel)
theorem dcX5_conjugateBy_14 : decode cX5_conjugateBy 14 = .ok (.iload 4, 2) := dw_at cX5_conjugateBy_k0 (p := 14) rfl (by decide +kernel)
theorem dcX5_conjugateBy_16 : decode cX5_conjugateBy 16 = .ok (.aload_n 0, 1) := dw_at cX5_conjugateBy_k0 (p := 16) rfl (by decide +kernel)
theorem dcX5_conjugateBy_17 : decode cX5_conjugateBy 17 = .ok (.getfield 25, 3) := dw_at cX5_conjugateBy_k0 (p := 17) rfl (by decide +kernel)
theorem dcX5_conjugateBy_20 : decode cX5_conjugateBy 20 = .ok (.if_icmp .ge 30, 3) := dw_at cX5_conjugateBy_k0 (p := 20) rfl (by decide +kernel)
theorem dcX5_conjugateBy_23 : decode cX5_conjugateBy 23 = .ok (.iload_n 3, 1) := dw_at cX5_conjugateBy_k0 (p := 23) rfl (by decide +kernel)
theorem dcX5_conjugateBy_24 : decode cX5_conjugateBy 24 = .ok (.iload_n 2, 1) := dw_at cX5_conjugateBy_k1 (p := 0) rfl (by decide +kernel)
theorem dcX5_conjugateBy_25 : decode cX5_conjugateBy 25 = .ok (.aload_n 0, 1) := dw_at cX5_conjugateBy_k1 (p := 1) rfl (by decide +kernel)
theorem dcX5_conjugateBy_26 : decode cX5_conjugateBy 26 = .ok (.getfield 25, 3) := dw_at cX5_conjugateBy_k1 (p := 2) rfl (by decide +kernel)
theorem dcX5_conjugateBy_29 : decode cX5_conjugateBy 29 = .ok (.iconst 1, 1) := dw_at cX5_conjugateBy_k1 (p := 5) rfl (by decide +kernel)
theorem dcX5_conjugateBy_30 : decode cX5_conjugateBy 30 = .ok (.isub, 1) := dw_at cX5_conjugateBy_k1 (p := 6) rfl (by decide +kernel)
theorem dcX5_conjugateBy_31 : decode cX5_conjugateBy 31 = .ok (.iload 4, 2) := dw_at cX5_conjugateBy_k1 (p := 7) rfl (by decide +kernel)
theorem dcX5_conjugateBy_33 : decode cX5_conjugateBy 33 = .ok (.isub, 1) := dw_at cX5_conjugateBy_k1 (p := 9) rfl (by decide +kernel)
theorem dcX5_conjugateBy_34 : decode cX5_conjugateBy 34 = .ok (.invokestatic 15, 3) := dw_at cX5_conjugateBy_k1 (p := 10) rfl (by decide +kernel)
theorem dcX5_conjugateBy_37 : decode cX5_conjugateBy 37 = .ok (.iconst 4, 1) := dw_at cX5_conjugateBy_k1 (p := 13) rfl (by decide +kernel)
theorem dcX5_conjugateBy_38 : decode cX5_conjugateBy 38 = .ok (.iload 4, 2) := dw_at cX5_conjugateBy_k1 (p := 14) rfl (by decide +kernel)
theorem dcX5_conjugateBy_40 : decode cX5_conjugateBy 40 = .ok (.imul, 1) := dw_at cX5_conjugateBy_k1 (p := 16) rfl (by decide +kernel)
theorem dcX5_conjugateBy_41 : decode cX5_conjugateBy 41 = .ok (.ishl, 1) := dw_at cX5_conjugateBy_k1 (p := 17) rfl (by decide +kernel)
theorem dcX5_conjugateBy_42 : decode cX5_conjugateBy 42 = .ok (.ior, 1) := dw_at cX5_conjugateBy_k1 (p := 18) rfl (by decide +kernel)
theorem dcX5_conjugateBy_43 : decode cX5_conjugateBy 43 = .ok (.istore_n 3, 1) := dw_at cX5_conjugateBy_k1 (p := 19) rfl (by decide +kernel)
theorem dcX5_conjugateBy_44 : decode cX5_conjugateBy 44 = .ok (.iinc 4 1, 3) := dw_at cX5_conjugateBy_k1 (p := 20) rfl (by decide +kernel)
theorem dcX5_conjugateBy_47 : decode cX5_conjugateBy 47 = .ok (.goto (-33), 3) := dw_at cX5_conjugateBy_k1 (p := 23) rfl (by decide +kernel)
theorem dcX5_conjugateBy_50 : decode cX5_conjugateBy 50 = .ok (.aload_n 0, 1) := dw_at cX5_conjugateBy_k2 (p := 0) rfl (by decide +kernel)
theorem dcX5_conjugateBy_51 : decode cX5_conjugateBy 51 = .ok (.getfield 29, 3) := dw_at cX5_conjugateBy_k2 (p := 1) rfl (by decide +kernel)
theorem dcX5_conjugateBy_54 : decode cX5_conjugateBy 54 = .ok (.iconst 1, 1) := dw_at cX5_conjugateBy_k2 (p := 4) rfl (by decide +kernel)
theorem dcX5_conjugateBy_55 : decode cX5_conjugateBy 55 = .ok (.iand, 1) := dw_at cX5_conjugateBy_k2 (p := 5) rfl (by decide +kernel)
theorem dcX5_conjugateBy_56 : decode cX5_conjugateBy 56 = .ok (.ifCond .ne 7, 3) := dw_at cX5_conjugateBy_k2 (p := 6) rfl (by decide +kernel)
theorem dcX5_conjugateBy_59 : decode cX5_conjugateBy 59 = .ok (.iload_n 3, 1) := dw_at cX5_conjugateBy_k2 (p := 9) rfl (by decide +kernel)
theorem dcX5_conjugateBy_60 : decode cX5_conjugateBy 60 = .ok (.goto 11, 3) := dw_at cX5_conjugateBy_k2 (p := 10) rfl (by decide +kernel)
theorem dcX5_conjugateBy_63 : decode cX5_conjugateBy 63 = .ok (.iload_n 3, 1) := dw_at cX5_conjugateBy_k2 (p := 13) rfl (by decide +kernel)
theorem dcX5_conjugateBy_64 : decode cX5_conjugateBy 64 = .ok (.aload_n 0, 1) := dw_at cX5_conjugateBy_k2 (p := 14) rfl (by decide +kernel)
theorem dcX5_conjugateBy_65 : decode cX5_conjugateBy 65 = .ok (.getfield 25, 3) := dw_at cX5_conjugateBy_k2 (p := 15) rfl (by decide +kernel)
theorem dcX5_conjugateBy_68 : decode cX5_conjugateBy 68 = .ok (.invokestatic 66, 3) := dw_at cX5_conjugateBy_k2 (p := 18) rfl (by decide +kernel)
theorem dcX5_conjugateBy_71 : decode cX5_conjugateBy 71 = .ok (.istore 4, 2) := dw_at cX5_conjugateBy_k2 (p := 21) rfl (by decide +kernel)
theorem dcX5_conjugateBy_73 : decode cX5_conjugateBy 73 = .ok (.aload_n 0, 1) := dw_at cX5_conjugateBy_k2 (p := 23) rfl (by decide +kernel)
theorem dcX5_conjugateBy_74 : decode cX5_conjugateBy 74 = .ok (.dup, 1) := dw_at cX5_conjugateBy_k3 (p := 0) rfl (by decide +kernel)
theorem dcX5_conjugateBy_75 : decode cX5_conjugateBy 75 = .ok (.getfield 29, 3) := dw_at cX5_conjugateBy_k3 (p := 1) rfl (by decide +kernel)
theorem dcX5_conjugateBy_78 : decode cX5_conjugateBy 78 = .ok (.iconst 1, 1) := dw_at cX5_conjugateBy_k3 (p := 4) rfl (by decide +kernel)
theorem dcX5_conjugateBy_79 : decode cX5_conjugateBy 79 = .ok (.isub, 1) := dw_at cX5_conjugateBy_k3 (p := 5) rfl (by decide +kernel)
theorem dcX5_conjugateBy_80 : decode cX5_conjugateBy 80 = .ok (.putfield 29, 3) := dw_at cX5_conjugateBy_k3 (p := 6) rfl (by decide +kernel)
theorem dcX5_conjugateBy_83 : decode cX5_conjugateBy 83 = .ok (.aload_n 0, 1) := dw_at cX5_conjugateBy_k3 (p := 9) rfl (by decide +kernel)
theorem dcX5_conjugateBy_84 : decode cX5_conjugateBy 84 = .ok (.iload 4, 2) := dw_at cX5_conjugateBy_k3 (p := 10) rfl (by decide +kernel)
theorem dcX5_conjugateBy_86 : decode cX5_conjugateBy 86 = .ok (.invokevirtual 83, 3) := dw_at cX5_conjugateBy_k3 (p := 12) rfl (by decide +kernel)
theorem dcX5_conjugateBy_89 : decode cX5_conjugateBy 89 = .ok (.aload_n 0, 1) := dw_at cX5_conjugateBy_k3 (p := 15) rfl (by decide +kernel)
theorem dcX5_conjugateBy_90 : decode cX5_conjugateBy 90 = .ok (.iload_n 1, 1) := dw_at cX5_conjugateBy_k3 (p := 16) rfl (by decide +kernel)
theorem dcX5_conjugateBy_91 : decode cX5_conjugateBy 91 = .ok (.invokevirtual 63, 3) := dw_at cX5_conjugateBy_k3 (p := 17) rfl (by decide +kernel)
theorem dcX5_conjugateBy_94 : decode cX5_conjugateBy 94 = .ok (.return_, 1) := dw_at cX5_conjugateBy_k3 (p := 20) rfl (by decide +kernel)
def cm_X5_conjugateBy_0 (vl : Nat → Nat) (K : Nat) (go : Nat → Int32 → Int32 → Int32 → Int32 → Nat → Int32 → ow_MS → Option ow_MS) (x1 : Int32) (x2 : Int32) (x3 : Int32) (x4 : Int32) (r0 : Nat) (t0 : Int32) (z : ow_MS) : Option ow_MS :=
 rdF z (r0 + 1) fun v1 => cs1 (ce_X5_invert vl K x1 v1 z) fun v3 z2 => go 1 x1 v3 0 0 r0 0 z2
def cm_X5_conjugateBy_1 (vl : Nat → Nat) (K : Nat) (go : Nat → Int32 → Int32 → Int32 → Int32 → Nat → Int32 → ow_MS → Option ow_MS) (x1 : Int32) (x2 : Int32) (x3 : Int32) (x4 : Int32) (r0 : Nat) (t0 : Int32) (z : ow_MS) : Option ow_MS :=
 rdF z (r0 + 1) fun v4 => (if v4 ≤ x4 then rdF z (r0 + 2) fun v5 => (if (v5 &&& 1) = 0 then go 2 x1 x2 x3 x4 r0 x3 z
 else rdF z (r0 + 1) fun v6 => cs1 (ce_X5_turned vl K x3 v6 z) fun v8 z7 => go 2 x1 x2 x3 x4 r0 v8 z7)
 else rdF z (r0 + 1) fun v9 => cs1 (ce_X5_image vl K x2 ((v9 - 1) - x4) z) fun v11 z10 => go 1 x1 x2 (x3 ||| ((v11 : Int32) <<< (((4 * x4) : Int32) &&& 31))) (x4 + 1) r0 0 z10)
def cm_X5_conjugateBy_2 (vl : Nat → Nat) (K : Nat) (go : Nat → Int32 → Int32 → Int32 → Int32 → Nat → Int32 → ow_MS → Option ow_MS) (x1 : Int32) (x2 : Int32) (x3 : Int32) (x4 : Int32) (r0 : Nat) (t0 : Int32) (z : ow_MS) : Option ow_MS :=
 rdF z (r0 + 2) fun v12 => wrF z (r0 + 2) (v12 - 1) fun z13 => cs0 (ce_X5_putBefore vl K r0 t0 z13) fun z14 => cs0 (ce_X5_putBehind vl K r0 x1 z14) fun z15 => some z15
def cb_X5_conjugateBy (vl : Nat → Nat) (K : Nat) (go : Nat → Int32 → Int32 → Int32 → Int32 → Nat → Int32 → ow_MS → Option ow_MS) (L : Nat) (x1 : Int32) (x2 : Int32) (x3 : Int32) (x4 : Int32) (r0 : Nat) (t0 : Int32) (z : ow_MS) : Option ow_MS := match L with
  | 0 => cm_X5_conjugateBy_0 vl K go x1 x2 x3 x4 r0 t0 z
  | 1 => cm_X5_conjugateBy_1 vl K go x1 x2 x3 x4 r0 t0 z
  | 2 => cm_X5_conjugateBy_2 vl K go x1 x2 x3 x4 r0 t0 z
  | _ => none
def c_X5_conjugateBy (vl : Nat → Nat) (K : Nat) : Nat → Nat → Int32 → Int32 → Int32 → Int32 → Nat → Int32 → ow_MS → Option ow_MS
  | 0 => fun _ _ _ _ _ _ _ _ => none
  | k + 1 => cb_X5_conjugateBy vl K (c_X5_conjugateBy vl K k)
def ce_X5_conjugateBy (vl : Nat → Nat) (K : Nat) (r0 : Nat) (x1 : Int32) (z : ow_MS) : Option ow_MS := c_X5_conjugateBy vl K K 0 x1 0 0 0 r0 0 z
abbrev wc_X5_conjugateBy : List Cond := .code yX5_conjugateBy cX5_conjugateBy 5 none :: wC
theorem cdd_X5_conjugateBy : yX5_conjugateBy.cls = RX5 ∧ yX5_conjugateBy.cls ≠ "java/lang/invoke/MethodHandle" ∧ yX5_conjugateBy.cls ≠ "java/lang/invoke/VarHandle" ∧ (parseMethodDescriptor yX5_conjugateBy.desc).map (fun d => d.parameters.length) = some 1 := by decide +kernel
set_option maxHeartbeats 4000000 in
set_option maxRecDepth 100000 in
theorem kc_X5_conjugateBy (l : Launch) (D : va_G) (q : Nat → ClassId) (vl u : Nat → Nat) (hU0 : tw_inj (cX vl) u) (K : Nat) (r0 : Nat) (x1 : Int32) (hr0 : cw_X5 r0) (z z1 : ow_MS) (hq : ce_X5_conjugateBy vl K r0 x1 z = some z1) : Met l yX5_conjugateBy wc_X5_conjugateBy ({ frames := 4, cells := 0, slots := 0, locals := 104 } : Room) (va_Pc [.ref (u r0), .int x1] (cw_pre D q vl u z)) (va_Qv (fun (_ : Unit) => True) (fun _ t => va_P D vwCl (uw (cX vl) q u z1) t.heap) (tw_A (cX vl) u)) 0 0 (tw_A (cX vl) u) := by
  refine Met.ofW (cc := cX5_conjugateBy) (maxL := 5) (ret := none) (by decide) rfl ?_
  intro p e s m args below meth c s₁ B hml hv
  obtain ⟨rfl, hP, hK⟩ := hv
  have hx := B.exec
  have hb := B.bytes
  have hr := B.returns
  have hts := atoms_spec (ws := wc_X5_conjugateBy) B.pre
  have hT : ∀ w ∈ wC, w.before ([.ref (u r0), .int x1] : List Value).toArray s = true := fun w h => hts w (List.mem_cons_of_mem _ h)
  have hown : s.vm.findClass RX5 = some m.cls := findClass_of_methodNamed B.named
  have hlocks := B.notSynchronized
  have hU : uw_inj (cX vl) u (tw_A (cX vl) u) := ⟨hU0, fun h hh => ⟨h, hh, rfl⟩⟩
  have hM : uw_M D vwCl (cX vl) q (tw_A (cX vl) u) s.heap u z s.heap [] := ⟨hP, va_S.rf⟩
  have hl := lv_entry ([.ref (u r0), .int x1]) (n := 5) (Nat.le_of_ble_eq_true rfl)
  rw [lg_entry_eq]
  generalize (lg_sl ([.ref (u r0), .int x1]) ++ List.replicate (5 - (lg_sl ([.ref (u r0), .int x1])).length) Slot.unset).toArray = ls at hl ⊢
  have hl : lv_has ls 5 [(0, .ref (u r0)), (1, .int x1)] := hl
  refine ow_named (fun QQ hQQ => ?_)
  generalize ([.ref (u r0), .int x1] : List Value).toArray = args at hts hT hQQ ⊢
  have key : ∀ k : Nat, (∀ (x1 : Int32) (x2 : Int32) (x3 : Int32) (x4 : Int32) (r0 : Nat) (t0 : Int32) (z : ow_MS) (H : Heap) (locs : List Loc) (ls : Array Slot), cw_X5 r0 → uw_M D vwCl (cX vl) q (tw_A (cX vl) u) s.heap u z H locs → lv_has ls 5 [(0, .ref (u r0)), (1, .int x1)] → c_X5_conjugateBy vl K k 0 x1 x2 x3 x4 r0 t0 z = some z1 → W p l e ({ frames := 4, cells := 0, slots := 0, locals := 104 } : Room) s m args below meth c H locs 0 0 QQ (F0 m 0 ls [])) ∧ (∀ (x1 : Int32) (x2 : Int32) (x3 : Int32) (x4 : Int32) (r0 : Nat) (t0 : Int32) (z : ow_MS) (H : Heap) (locs : List Loc) (ls : Array Slot), cw_X5 r0 → uw_M D vwCl (cX vl) q (tw_A (cX vl) u) s.heap u z H locs → lv_has ls 5 [(0, .ref (u r0)), (1, .int x1), (2, .int x2), (3, .int x3), (4, .int x4)] → c_X5_conjugateBy vl K k 1 x1 x2 x3 x4 r0 t0 z = some z1 → W p l e ({ frames := 4, cells := 0, slots := 0, locals := 104 } : Room) s m args below meth c H locs 0 0 QQ (F0 m 14 ls [])) ∧ (∀ (x1 : Int32) (x2 : Int32) (x3 : Int32) (x4 : Int32) (r0 : Nat) (t0 : Int32) (z : ow_MS) (H : Heap) (locs : List Loc) (ls : Array Slot), cw_X5 r0 → uw_M D vwCl (cX vl) q (tw_A (cX vl) u) s.heap u z H locs → lv_has ls 5 [(0, .ref (u r0)), (1, .int x1), (2, .int x2), (3, .int x3), (4, .int x4)] → c_X5_conjugateBy vl K k 2 x1 x2 x3 x4 r0 t0 z = some z1 → W p l e ({ frames := 4, cells := 0, slots := 0, locals := 104 } : Room) s m args below meth c H locs 0 0 QQ (F0 m 71 ls [.int t0])) := by
    intro k
    induction k with
    | zero => exact ⟨fun _ _ _ _ _ _ _ _ _ _ _ _ _ hq => cw_no hq, fun _ _ _ _ _ _ _ _ _ _ _ _ _ hq => cw_no hq, fun _ _ _ _ _ _ _ _ _ _ _ _ _ hq => cw_no hq⟩
    | succ k ih =>
      obtain ⟨ih_0, ih_1, ih_2⟩ := ih
      refine ⟨?_, ?_, ?_⟩
      · intro x1 x2 x3 x4 r0 t0 z H locs ls hr0 hM hl hq
        have hq : cm_X5_conjugateBy_0 vl K (c_X5_conjugateBy vl K k) x1 x2 x3 x4 r0 t0 z = some z1 := hq
        unfold cm_X5_conjugateBy_0 at hq
        refine lv_iload_n hx hb dcX5_conjugateBy_0 rfl (lv_at hl 1 rfl) ?_
        refine lv_aload_n hx hb dcX5_conjugateBy_1 rfl (lv_at hl 0 rfl) ?_
        refine vgX5_25 hx hb hT hown hK hM hr0 hq dcX5_conjugateBy_2 (fun v1 hq => ?_)
        obtain ⟨v3, z2, hcq, hq⟩ := tw_cl1 hq
        refine uw_cali hU hM (va_runS (As := [.int x1, .int v1]) (rest := []) ⟨hx, hb, hml, hown, hts⟩ (kc_X5_invert l D q vl u hU.1 K x1 v1 z z2 v3 hcq) (va_cwS 2 hts (tw_gS wC_good xq_409 xq_410 xq_403 xq_404) rfl rfl rfl cdd_X5_invert ⟨(Nat.le_of_ble_eq_true rfl), (Nat.le_of_ble_eq_true rfl)⟩) (cw_preS hK hM) rfl rfl hl.1 rfl (lv_room (Nat.le_of_ble_eq_true rfl)) dcX5_conjugateBy_5 ⟨(Nat.le_of_ble_eq_true rfl), (Nat.le_of_ble_eq_true rfl)⟩) (fun H locs hM => ?_)
        refine lv_istore_n (lv' := [(2, .int v3), (0, .ref (u r0)), (1, .int x1)]) hx hb dcX5_conjugateBy_8 rfl hl (by decide) rfl (fun ls hl => ?_)
        refine lv_iconst (v := 0) hx hb dcX5_conjugateBy_9 (by decide) ?_
        refine lv_istore_n (lv' := [(3, .int 0), (2, .int v3), (0, .ref (u r0)), (1, .int x1)]) hx hb dcX5_conjugateBy_10 rfl hl (by decide) rfl (fun ls hl => ?_)
        refine lv_iconst (v := 0) hx hb dcX5_conjugateBy_11 (by decide) ?_
        refine lv_istore (lv' := [(4, .int 0), (3, .int 0), (2, .int v3), (0, .ref (u r0)), (1, .int x1)]) hx hb dcX5_conjugateBy_12 hl (by decide) rfl (fun ls hl => ?_)
        exact ih_1 x1 v3 0 0 r0 0 z2 H locs ls hr0 hM (lv_sub hl [3, 4, 2, 1, 0] rfl) hq
      · intro x1 x2 x3 x4 r0 t0 z H locs ls hr0 hM hl hq
        have hq : cm_X5_conjugateBy_1 vl K (c_X5_conjugateBy vl K k) x1 x2 x3 x4 r0 t0 z = some z1 := hq
        unfold cm_X5_conjugateBy_1 at hq
        refine lv_iload hx hb dcX5_conjugateBy_14 (lv_at hl 4 rfl) ?_
        refine lv_aload_n hx hb dcX5_conjugateBy_16 rfl (lv_at hl 0 rfl) ?_
        refine vgX5_25 hx hb hT hown hK hM hr0 hq dcX5_conjugateBy_17 (fun v4 hq => ?_)
        refine lv_icmp_ge (tgt := 50) hx hb dcX5_conjugateBy_20 (by decide) (fun hc => ?_) (fun hc => ?_)
        · have hq := tw_it hq hc
          refine lv_aload_n hx hb dcX5_conjugateBy_50 rfl (lv_at hl 0 rfl) ?_
          refine vgX5_29 hx hb hT hown hK hM hr0 hq dcX5_conjugateBy_51 (fun v5 hq => ?_)
          refine lv_iconst (v := 1) hx hb dcX5_conjugateBy_54 (by decide) ?_
          refine lv_iand hx hb dcX5_conjugateBy_55 ?_
          refine lv_if_ne (tgt := 63) hx hb dcX5_conjugateBy_56 (by decide) (fun hc => ?_) (fun hc => ?_)
          · have hq := tw_if hq hc
            refine lv_iload_n hx hb dcX5_conjugateBy_63 rfl (lv_at hl 3 rfl) ?_
            refine lv_aload_n hx hb dcX5_conjugateBy_64 rfl (lv_at hl 0 rfl) ?_
            refine vgX5_25 hx hb hT hown hK hM hr0 hq dcX5_conjugateBy_65 (fun v6 hq => ?_)
            obtain ⟨v8, z7, hcq, hq⟩ := tw_cl1 hq
            refine uw_cali hU hM (va_runS (As := [.int x3, .int v6]) (rest := []) ⟨hx, hb, hml, hown, hts⟩ (kc_X5_turned l D q vl u hU.1 K x3 v6 z z7 v8 hcq) (va_cwS 2 hts (tw_gS wC_good xq_450 xq_451 xq_403 xq_407) rfl rfl rfl cdd_X5_turned ⟨(Nat.le_of_ble_eq_true rfl), (Nat.le_of_ble_eq_true rfl)⟩) (cw_preS hK hM) rfl rfl hl.1 rfl (lv_room (Nat.le_of_ble_eq_true rfl)) dcX5_conjugateBy_68 ⟨(Nat.le_of_ble_eq_true rfl), (Nat.le_of_ble_eq_true rfl)⟩) (fun H locs hM => ?_)
            exact ih_2 x1 x2 x3 x4 r0 v8 z7 H locs ls hr0 hM (lv_sub hl [0, 1, 2, 3, 4] rfl) hq
          · have hq := tw_it hq hc
            refine lv_iload_n hx hb dcX5_conjugateBy_59 rfl (lv_at hl 3 rfl) ?_
            refine lv_goto (tgt := 71) hx hb dcX5_conjugateBy_60 (by decide) ?_
            exact ih_2 x1 x2 x3 x4 r0 x3 z H locs ls hr0 hM (lv_sub hl [0, 1, 2, 3, 4] rfl) hq
        · have hq := tw_if hq hc
          refine lv_iload_n hx hb dcX5_conjugateBy_23 rfl (lv_at hl 3 rfl) ?_
          refine lv_iload_n hx hb dcX5_conjugateBy_24 rfl (lv_at hl 2 rfl) ?_
          refine lv_aload_n hx hb dcX5_conjugateBy_25 rfl (lv_at hl 0 rfl) ?_
          refine vgX5_25 hx hb hT hown hK hM hr0 hq dcX5_conjugateBy_26 (fun v9 hq => ?_)
          refine lv_iconst (v := 1) hx hb dcX5_conjugateBy_29 (by decide) ?_
          refine lv_isub hx hb dcX5_conjugateBy_30 ?_
          refine lv_iload hx hb dcX5_conjugateBy_31 (lv_at hl 4 rfl) ?_
          refine lv_isub hx hb dcX5_conjugateBy_33 ?_
          obtain ⟨v11, z10, hcq, hq⟩ := tw_cl1 hq
          refine uw_cali hU hM (va_runS (As := [.int x2, .int ((v9 - 1) - x4)]) (rest := [.int x3]) ⟨hx, hb, hml, hown, hts⟩ (kc_X5_image l D q vl u hU.1 K x2 ((v9 - 1) - x4) z z10 v11 hcq) (va_cwS 2 hts (tw_gS wC_good xq_401 xq_402 xq_403 xq_400) rfl rfl rfl cdd_X5_image ⟨(Nat.le_of_ble_eq_true rfl), (Nat.le_of_ble_eq_true rfl)⟩) (cw_preS hK hM) rfl rfl hl.1 rfl (lv_room (Nat.le_of_ble_eq_true rfl)) dcX5_conjugateBy_34 ⟨(Nat.le_of_ble_eq_true rfl), (Nat.le_of_ble_eq_true rfl)⟩) (fun H locs hM => ?_)
          refine lv_iconst (v := 4) hx hb dcX5_conjugateBy_37 (by decide) ?_
          refine lv_iload hx hb dcX5_conjugateBy_38 (lv_at hl 4 rfl) ?_
          refine lv_imul hx hb dcX5_conjugateBy_40 ?_
          refine lv_ishl hx hb dcX5_conjugateBy_41 ?_
          refine lv_ior hx hb dcX5_conjugateBy_42 ?_
          refine lv_istore_n (lv' := [(3, .int (x3 ||| ((v11 : Int32) <<< (((4 * x4) : Int32) &&& 31)))), (0, .ref (u r0)), (1, .int x1), (2, .int x2), (4, .int x4)]) hx hb dcX5_conjugateBy_43 rfl hl (by decide) rfl (fun ls hl => ?_)
          refine lv_iinc (v := (x4 + 1)) (lv' := [(4, .int (x4 + 1)), (3, .int (x3 ||| ((v11 : Int32) <<< (((4 * x4) : Int32) &&& 31)))), (0, .ref (u r0)), (1, .int x1), (2, .int x2)]) hx hb dcX5_conjugateBy_44 hl (k := 4) rfl rfl (by decide) rfl (fun ls hl => ?_)
          refine lv_goto (tgt := 14) hx hb dcX5_conjugateBy_47 (by decide) ?_
          exact ih_1 x1 x2 (x3 ||| ((v11 : Int32) <<< (((4 * x4) : Int32) &&& 31))) (x4 + 1) r0 0 z10 H locs ls hr0 hM (lv_sub hl [2, 3, 4, 1, 0] rfl) hq
      · intro x1 x2 x3 x4 r0 t0 z H locs ls hr0 hM hl hq
        have hq : cm_X5_conjugateBy_2 vl K (c_X5_conjugateBy vl K k) x1 x2 x3 x4 r0 t0 z = some z1 := hq
        unfold cm_X5_conjugateBy_2 at hq
        refine lv_istore (lv' := [(4, .int t0), (0, .ref (u r0)), (1, .int x1), (2, .int x2), (3, .int x3)]) hx hb dcX5_conjugateBy_71 hl (by decide) rfl (fun ls hl => ?_)
        refine lv_aload_n hx hb dcX5_conjugateBy_73 rfl (lv_at hl 1 rfl) ?_
        refine lv_dup hx hb dcX5_conjugateBy_74 rfl ?_
        refine vgX5_29 hx hb hT hown hK hM hr0 hq dcX5_conjugateBy_75 (fun v12 hq => ?_)
        refine lv_iconst (v := 1) hx hb dcX5_conjugateBy_78 (by decide) ?_
        refine lv_isub hx hb dcX5_conjugateBy_79 ?_
        refine vpX5_29 hx hb hT hown hK hM hU hr0 hq dcX5_conjugateBy_80 (fun z13 H locs hM hq => ?_)
        refine lv_aload_n hx hb dcX5_conjugateBy_83 rfl (lv_at hl 1 rfl) ?_
        refine lv_iload hx hb dcX5_conjugateBy_84 (lv_at hl 0 rfl) ?_
        obtain ⟨z14, hcq, hq⟩ := tw_cl0 hq
        refine uw_calv hU hM (va_runV (As := [.int t0]) (rest := []) ⟨hx, hb, hml, hown, hts⟩ (kc_X5_putBefore l D q vl u hU.1 K r0 t0 hr0 z13 z14 hcq) (cwV 1 hts (tw_gV wC_good xq_457 xq_458 xq_459 xq_403 xq_455) rfl rfl rfl cdd_X5_putBefore ⟨(Nat.le_of_ble_eq_true rfl), (Nat.le_of_ble_eq_true rfl)⟩) (cw_preV hK hM (co_X5 hr0) rfl) rfl rfl hl.1 rfl (lv_room (Nat.le_of_ble_eq_true rfl)) dcX5_conjugateBy_86 ⟨(Nat.le_of_ble_eq_true rfl), (Nat.le_of_ble_eq_true rfl)⟩) (fun H locs hM => ?_)
        refine lv_aload_n hx hb dcX5_conjugateBy_89 rfl (lv_at hl 1 rfl) ?_
        refine lv_iload_n hx hb dcX5_conjugateBy_90 rfl (lv_at hl 2 rfl) ?_
        obtain ⟨z15, hcq, hq⟩ := tw_cl0 hq
        refine uw_calv hU hM (va_runV (As := [.int x1]) (rest := []) ⟨hx, hb, hml, hown, hts⟩ (kc_X5_putBehind l D q vl u hU.1 K r0 x1 hr0 z14 z15 hcq) (cwV 1 hts (tw_gV wC_good xq_434 xq_435 xq_436 xq_403 xq_437) rfl rfl rfl cdd_X5_putBehind ⟨(Nat.le_of_ble_eq_true rfl), (Nat.le_of_ble_eq_true rfl)⟩) (cw_preV hK hM (co_X5 hr0) rfl) rfl rfl hl.1 rfl (lv_room (Nat.le_of_ble_eq_true rfl)) dcX5_conjugateBy_91 ⟨(Nat.le_of_ble_eq_true rfl), (Nat.le_of_ble_eq_true rfl)⟩) (fun H locs hM => ?_)
        exact cw_vret hx hb hr hlocks hM hq hQQ dcX5_conjugateBy_94
  exact (key K).1 x1 0 0 0 r0 0 z s.heap [] ls hr0 hM (lv_sub hl [0, 1] rfl) hq
theorem dcX6_countNumbers_0 : decode cX6_countNumbers 0 = .ok (.iconst 2, 1) := dw_at cX6_countNumbers_k0 (p := 0) rfl (by decide +kernel)
theorem dcX6_countNumbers_1 : decode cX6_countNumbers 1 = .ok (.aload_n 0, 1) := dw_at cX6_countNumbers_k0 (p := 1) rfl (by decide +kernel)
theorem dcX6_countNumbers_2 : decode cX6_countNumbers 2 = .ok (.getfield 29, 3) := dw_at cX6_countNumbers_k0 (p := 2) rfl (by decide +kernel)
theorem dcX6_countNumbers_5 : decode cX6_countNumbers 5 = .ok (.getfield 81, 3) := dw_at cX6_countNumbers_k0 (p := 5) rfl (by decide +kernel)
theorem dcX6_countNumbers_8 : decode cX6_countNumbers 8 = .ok (.imul, 1) := dw_at cX6_countNumbers_k0 (p := 8) rfl (by decide +kernel)
theorem dcX6_countNumbers_9 : decode cX6_countNumbers 9 = .ok (.istore_n 2, 1) := dw_at cX6_countNumbers_k0 (p := 9) rfl (by decide +kernel)
theorem dcX6_countNumbers_10 : decode cX6_countNumbers 10 = .ok (.iload_n 1, 1) := dw_at cX6_countNumbers_k0 (p := 10) rfl (by decide +kernel)
theorem dcX6_countNumbers_11 : decode cX6_countNumbers 11 = .ok (.tableswitch 105 0 3 #[29, 37, 61, 77], 29) := by decide +kernel
theorem dcX6_countNumbers_40 : decode cX6_countNumbers 40 = .ok (.aload_n 0, 1) := dw_at cX6_countNumbers_k1 (p := 0) rfl (by decide +kernel)
theorem dcX6_countNumbers_41 : decode cX6_countNumbers 41 = .ok (.getfield 29, 3) := dw_at cX6_countNumbers_k1 (p := 1) rfl (by decide +kernel)
theorem dcX6_countNumbers_44 : decode cX6_countNumbers 44 = .ok (.getfield 81, 3) := dw_at cX6_countNumbers_k1 (p := 4) rfl (by decide +kernel)
theorem dcX6_countNumbers_47 : decode cX6_countNumbers 47 = .ok (.ireturn, 1) := dw_at cX6_countNumbers_k1 (p := 7) rfl (by decide +kernel)
theorem dcX6_countNumbers_48 : decode cX6_countNumbers 48 = .ok (.aload_n 0, 1) := dw_at cX6_countNumbers_k1 (p := 8) rfl (by decide +kernel)
theorem dcX6_countNumbers_49 : decode cX6_countNumbers 49 = .ok (.getfield 29, 3) := dw_at cX6_countNumbers_k1 (p := 9) rfl (by decide +kernel)
theorem dcX6_countNumbers_52 : decode cX6_countNumbers 52 = .ok (.getfield 81, 3) := dw_at cX6_countNumbers_k1 (p := 12) rfl (by decide +kernel)
theorem dcX6_countNumbers_55 : decode cX6_countNumbers 55 = .ok (.iconst 1, 1) := dw_at cX6_countNumbers_k1 (p := 15) rfl (by decide +kernel)
theorem dcX6_countNumbers_56 : decode cX6_countNumbers 56 = .ok (.iadd, 1) := dw_at cX6_countNumbers_k1 (p := 16) rfl (by decide +kernel)
theorem dcX6_countNumbers_57 : decode cX6_countNumbers 57 = .ok (.bipush 12, 2) := dw_at cX6_countNumbers_k1 (p := 17) rfl (by decide +kernel)
theorem dcX6_countNumbers_59 : decode cX6_countNumbers 59 = .ok (.if_icmp .le 7, 3) := dw_at cX6_countNumbers_k1 (p := 19) rfl (by decide +kernel)
theorem dcX6_countNumbers_62 : decode cX6_countNumbers 62 = .ok (.iconst 0, 1) := dw_at cX6_countNumbers_k1 (p := 22) rfl (by decide +kernel)
theorem dcX6_countNumbers_63 : decode cX6_countNumbers 63 = .ok (.goto 8, 3) := dw_at cX6_countNumbers_k1 (p := 23) rfl (by decide +kernel)
theorem dcX6_countNumbers_66 : decode cX6_countNumbers 66 = .ok (.iload_n 2, 1) := dw_at cX6_countNumbers_k2 (p := 0) rfl (by decide +kernel)
theorem dcX6_countNumbers_67 : decode cX6_countNumbers 67 = .ok (.iconst 1, 1) := dw_at cX6_countNumbers_k2 (p := 1) rfl (by decide +kernel)
theorem dcX6_countNumbers_68 : decode cX6_countNumbers 68 = .ok (.iadd, 1) := dw_at cX6_countNumbers_k2 (p := 2) rfl (by decide +kernel)
theorem dcX6_countNumbers_69 : decode cX6_countNumbers 69 = .ok (.iconst 4, 1) := dw_at cX6_countNumbers_k2 (p := 3) rfl (by decide +kernel)
theorem dcX6_countNumbers_70 : decode cX6_countNumbers 70 = .ok (.imul, 1) := dw_at cX6_countNumbers_k2 (p := 4) rfl (by decide +kernel)
theorem dcX6_countNumbers_71 : decode cX6_countNumbers 71 = .ok (.ireturn, 1) := dw_at cX6_countNumbers_k2 (p := 5) rfl (by decide +kernel)
theorem dcX6_countNumbers_72 : decode cX6_countNumbers 72 = .ok (.aload_n 0, 1) := dw_at cX6_countNumbers_k2 (p := 6) rfl (by decide +kernel)
theorem dcX6_countNumbers_73 : decode cX6_countNumbers 73 = .ok (.getfield 29, 3) := dw_at cX6_countNumbers_k2 (p := 7) rfl (by decide +kernel)
theorem dcX6_countNumbers_76 : decode cX6_countNumbers 76 = .ok (.getfield 81, 3) := dw_at cX6_countNumbers_k2 (p := 10) rfl (by decide +kernel)
theorem dcX6_countNumbers_79 : decode cX6_countNumbers 79 = .ok (.aload_n 0, 1) := dw_at cX6_countNumbers_k2 (p := 13) rfl (by decide +kernel)
theorem dcX6_countNumbers_80 : decode cX6_countNumbers 80 = .ok (.getfield 29, 3) := dw_at cX6_countNumbers_k2 (p := 14) rfl (by decide +kernel)
theorem dcX6_countNumbers_83 : decode cX6_countNumbers 83 = .ok (.getfield 81, 3) := dw_at cX6_countNumbers_k2 (p := 17) rfl (by decide +kernel)
theorem dcX6_countNumbers_86 : decode cX6_countNumbers 86 = .ok (.imul, 1) := dw_at cX6_countNumbers_k2 (p := 20) rfl (by decide +kernel)
theorem dcX6_countNumbers_87 : decode cX6_countNumbers 87 = .ok (.ireturn, 1) := dw_at cX6_countNumbers_k2 (p := 21) rfl (by decide +kernel)
theorem dcX6_countNumbers_88 : decode cX6_countNumbers 88 = .ok (.aload_n 0, 1) := dw_at cX6_countNumbers_k2 (p := 22) rfl (by decide +kernel)
theorem dcX6_countNumbers_89 : decode cX6_countNumbers 89 = .ok (.getfield 29, 3) := dw_at cX6_countNumbers_k2 (p := 23) rfl (by decide +kernel)
theorem dcX6_countNumbers_92 : decode cX6_countNumbers 92 = .ok (.getfield 81, 3) := dw_at cX6_countNumbers_k3 (p := 0) rfl (by decide +kernel)
theorem dcX6_countNumbers_95 : decode cX6_countNumbers 95 = .ok (.iconst 2, 1) := dw_at cX6_countNumbers_k3 (p := 3) rfl (by decide +kernel)
theorem dcX6_countNumbers_96 : decode cX6_countNumbers 96 = .ok (.iadd, 1) := dw_at cX6_countNumbers_k3 (p := 4) rfl (by decide +kernel)
theorem dcX6_countNumbers_97 : decode cX6_countNumbers 97 = .ok (.bipush 12, 2) := dw_at cX6_countNumbers_k3 (p := 5) rfl (by decide +kernel)
theorem dcX6_countNumbers_99 : decode cX6_countNumbers 99 = .ok (.if_icmp .le 7, 3) := dw_at cX6_countNumbers_k3 (p := 7) rfl (by decide +kernel)
theorem dcX6_countNumbers_102 : decode cX6_countNumbers 102 = .ok (.iconst 0, 1) := dw_at cX6_countNumbers_k3 (p := 10) rfl (by decide +kernel)
theorem dcX6_countNumbers_103 : decode cX6_countNumbers 103 = .ok (.goto 12, 3) := dw_at cX6_countNumbers_k3 (p := 11) rfl (by decide +kernel)
theorem dcX6_countNumbers_106 : decode cX6_countNumbers 106 = .ok (.iload_n 2, 1) := dw_at cX6_countNumbers_k3 (p := 14) rfl (by decide +kernel)
theorem dcX6_countNumbers_107 : decode cX6_countNumbers 107 = .ok (.iconst 1, 1) := dw_at cX6_countNumbers_k3 (p := 15) rfl (by decide +kernel)
theorem dcX6_countNumbers_108 : decode cX6_countNumbers 108 = .ok (.iadd, 1) := dw_at cX6_countNumbers_k3 (p := 16) rfl (by decide +kernel)
theorem dcX6_countNumbers_109 : decode cX6_countNumbers 109 = .ok (.iload_n 2, 1) := dw_at cX6_countNumbers_k3 (p := 17) rfl (by decide +kernel)
theorem dcX6_countNumbers_110 : decode cX6_countNumbers 110 = .ok (.iconst 2, 1) := dw_at cX6_countNumbers_k3 (p := 18) rfl (by decide +kernel)
theorem dcX6_countNumbers_111 : decode cX6_countNumbers 111 = .ok (.iadd, 1) := dw_at cX6_countNumbers_k3 (p := 19) rfl (by decide +kernel)
theorem dcX6_countNumbers_112 : decode cX6_countNumbers 112 = .ok (.imul, 1) := dw_at cX6_countNumbers_k3 (p := 20) rfl (by decide +kernel)
theorem dcX6_countNumbers_113 : decode cX6_countNumbers 113 = .ok (.iconst 4, 1) := dw_at cX6_countNumbers_k3 (p := 21) rfl (by decide +kernel)
theorem dcX6_countNumbers_114 : decode cX6_countNumbers 114 = .ok (.imul, 1) := dw_at cX6_countNumbers_k3 (p := 22) rfl (by decide +kernel)
theorem dcX6_countNumbers_115 : decode cX6_countNumbers 115 = .ok (.ireturn, 1) := dw_at cX6_countNumbers_k3 (p := 23) rfl (by decide +kernel)
theorem dcX6_countNumbers_116 : decode cX6_countNumbers 116 = .ok (.iconst 2, 1) := dw_at cX6_countNumbers_k3 (p := 24) rfl (by decide +kernel)
theorem dcX6_countNumbers_117 : decode cX6_countNumbers 117 = .ok (.iload_n 2, 1) := dw_at cX6_countNumbers_k3 (p := 25) rfl (by decide +kernel)
theorem dcX6_countNumbers_118 : decode cX6_countNumbers 118 = .ok (.imul, 1) := dw_at cX6_countNumbers_k3 (p := 26) rfl (by decide +kernel)
theorem dcX6_countNumbers_119 : decode cX6_countNumbers 119 = .ok (.ireturn, 1) := dw_at cX6_countNumbers_k3 (p := 27) rfl (by decide +kernel)
def cm_X6_countNumbers_0 (vl : Nat → Nat) (K : Nat) (x1 : Int32) (r0 : Nat) (z : ow_MS) : Option (Int32 × ow_MS) :=
 rdF z ((r0 + 4000) + 8) fun v1 => (if x1.toInt < 0 ∨ 3 < x1.toInt then some ((2 * (2 * v1)), z)
 else (if x1 = 0 then rdF z ((r0 + 4000) + 8) fun v2 => some (v2, z)
 else (if x1 = 1 then rdF z ((r0 + 4000) + 8) fun v3 => (if (v3 + 1) ≤ 12 then some ((((2 * v1) + 1) * 4), z)
 else some (0, z))
 else (if x1 = 2 then rdF z ((r0 + 4000) + 8) fun v4 => rdF z ((r0 + 4000) + 8) fun v5 => some ((v4 * v5), z)
 else (if x1 = 3 then rdF z ((r0 + 4000) + 8) fun v6 => (if (v6 + 2) ≤ 12 then some (((((2 * v1) + 1) * ((2 * v1) + 2)) * 4), z)
 else some (0, z))
 else none)))))
def ce_X6_countNumbers (vl : Nat → Nat) (K : Nat) (r0 : Nat) (x1 : Int32) (z : ow_MS) : Option (Int32 × ow_MS) := cm_X6_countNumbers_0 vl K x1 r0 z
abbrev wc_X6_countNumbers : List Cond := .code yX6_countNumbers cX6_countNumbers 3 (some .int) :: wC
theorem cdd_X6_countNumbers : yX6_countNumbers.cls = RX6 ∧ yX6_countNumbers.cls ≠ "java/lang/invoke/MethodHandle" ∧ yX6_countNumbers.cls ≠ "java/lang/invoke/VarHandle" ∧ (parseMethodDescriptor yX6_countNumbers.desc).map (fun d => d.parameters.length) = some 1 := by decide +kernel
set_option maxHeartbeats 4000000 in
set_option maxRecDepth 100000 in
theorem kc_X6_countNumbers (l : Launch) (D : va_G) (q : Nat → ClassId) (vl u : Nat → Nat) (hU0 : tw_inj (cX vl) u) (K : Nat) (r0 : Nat) (x1 : Int32) (hr0 : cw_X6 r0) (z z1 : ow_MS) (r : Int32) (hq : ce_X6_countNumbers vl K r0 x1 z = some (r, z1)) : Met l yX6_countNumbers wc_X6_countNumbers ({ frames := 0, cells := 0, slots := 0, locals := 0 } : Room) (va_Pc [.ref (u r0), .int x1] (cw_pre D q vl u z)) (va_Qi (fun x (_ : Unit) => x = r) (fun _ t => va_P D vwCl (uw (cX vl) q u z1) t.heap) (tw_A (cX vl) u)) 0 0 (tw_A (cX vl) u) := by
  refine Met.ofW (cc := cX6_countNumbers) (maxL := 3) (ret := (some .int)) (by decide) rfl ?_
  intro p e s m args below meth c s₁ B hml hv
  obtain ⟨rfl, hP, hK⟩ := hv
  have hx := B.exec
  have hb := B.bytes
  have hr := B.returns
  have hts := atoms_spec (ws := wc_X6_countNumbers) B.pre
  have hT : ∀ w ∈ wC, w.before ([.ref (u r0), .int x1] : List Value).toArray s = true := fun w h => hts w (List.mem_cons_of_mem _ h)
  have hown : s.vm.findClass RX6 = some m.cls := findClass_of_methodNamed B.named
  have hlocks := B.notSynchronized
  have hU : uw_inj (cX vl) u (tw_A (cX vl) u) := ⟨hU0, fun h hh => ⟨h, hh, rfl⟩⟩
  have hM : uw_M D vwCl (cX vl) q (tw_A (cX vl) u) s.heap u z s.heap [] := ⟨hP, va_S.rf⟩
  have hl := lv_entry ([.ref (u r0), .int x1]) (n := 3) (Nat.le_of_ble_eq_true rfl)
  rw [lg_entry_eq]
  generalize (lg_sl ([.ref (u r0), .int x1]) ++ List.replicate (3 - (lg_sl ([.ref (u r0), .int x1])).length) Slot.unset).toArray = ls at hl ⊢
  have hl : lv_has ls 3 [(0, .ref (u r0)), (1, .int x1)] := hl
  refine ow_named (fun QQ hQQ => ?_)
  generalize ([.ref (u r0), .int x1] : List Value).toArray = args at hts hT hQQ ⊢
  have hq : cm_X6_countNumbers_0 vl K x1 r0 z = some (r, z1) := hq
  unfold cm_X6_countNumbers_0 at hq
  suffices key : ∀ (H : Heap) (locs : List Loc), uw_M D vwCl (cX vl) q (tw_A (cX vl) u) s.heap u z H locs → W p l e ({ frames := 0, cells := 0, slots := 0, locals := 0 } : Room) s m args below meth c H locs 0 0 QQ (F0 m 0 ls []) from key s.heap [] hM
  intro H locs hM
  refine lv_iconst (v := 2) hx hb dcX6_countNumbers_0 (by decide) ?_
  refine lv_aload_n hx hb dcX6_countNumbers_1 rfl (lv_at hl 0 rfl) ?_
  refine vgX6_29 hx hb hT hown hK hM hr0 dcX6_countNumbers_2 ?_
  refine vgX6_81 hx hb hT hown hK hM (cs_X6_3 hr0) hq dcX6_countNumbers_5 (fun v1 hq => ?_)
  refine lv_imul hx hb dcX6_countNumbers_8 ?_
  refine lv_istore_n (lv' := [(2, .int (2 * v1)), (0, .ref (u r0)), (1, .int x1)]) hx hb dcX6_countNumbers_9 rfl hl (by decide) rfl (fun ls hl => ?_)
  refine lv_iload_n hx hb dcX6_countNumbers_10 rfl (lv_at hl 2 rfl) ?_
  by_cases hc : x1.toInt < 0 ∨ 3 < x1.toInt
  · have hq := tw_it hq hc
    refine lv_tableOut (tgt := 116) hx hb dcX6_countNumbers_11 hc (by decide) ?_
    refine lv_iconst (v := 2) hx hb dcX6_countNumbers_116 (by decide) ?_
    refine lv_iload_n hx hb dcX6_countNumbers_117 rfl (lv_at hl 0 rfl) ?_
    refine lv_imul hx hb dcX6_countNumbers_118 ?_
    exact cw_iret hx hb hr hlocks hM hq hQQ dcX6_countNumbers_119
  · have hq := tw_if hq hc
    by_cases hc : x1 = 0
    · have hq := tw_it hq hc
      refine ow_topi (y := 0) hc ?_
      refine lv_tableIn (x := 0) (tgt := 40) hx hb dcX6_countNumbers_11 (by decide) (by decide) rfl (by decide) ?_
      refine lv_aload_n hx hb dcX6_countNumbers_40 rfl (lv_at hl 1 rfl) ?_
      refine vgX6_29 hx hb hT hown hK hM hr0 dcX6_countNumbers_41 ?_
      refine vgX6_81 hx hb hT hown hK hM (cs_X6_3 hr0) hq dcX6_countNumbers_44 (fun v2 hq => ?_)
      exact cw_iret hx hb hr hlocks hM hq hQQ dcX6_countNumbers_47
    · have hq := tw_if hq hc
      by_cases hc : x1 = 1
      · have hq := tw_it hq hc
        refine ow_topi (y := 1) hc ?_
        refine lv_tableIn (x := 1) (tgt := 48) hx hb dcX6_countNumbers_11 (by decide) (by decide) rfl (by decide) ?_
        refine lv_aload_n hx hb dcX6_countNumbers_48 rfl (lv_at hl 1 rfl) ?_
        refine vgX6_29 hx hb hT hown hK hM hr0 dcX6_countNumbers_49 ?_
        refine vgX6_81 hx hb hT hown hK hM (cs_X6_3 hr0) hq dcX6_countNumbers_52 (fun v3 hq => ?_)
        refine lv_iconst (v := 1) hx hb dcX6_countNumbers_55 (by decide) ?_
        refine lv_iadd hx hb dcX6_countNumbers_56 ?_
        refine lv_bipush (v := 12) hx hb dcX6_countNumbers_57 (by decide) ?_
        refine lv_icmp_le (tgt := 66) hx hb dcX6_countNumbers_59 (by decide) (fun hc => ?_) (fun hc => ?_)
        · have hq := tw_it hq hc
          refine lv_iload_n hx hb dcX6_countNumbers_66 rfl (lv_at hl 0 rfl) ?_
          refine lv_iconst (v := 1) hx hb dcX6_countNumbers_67 (by decide) ?_
          refine lv_iadd hx hb dcX6_countNumbers_68 ?_
          refine lv_iconst (v := 4) hx hb dcX6_countNumbers_69 (by decide) ?_
          refine lv_imul hx hb dcX6_countNumbers_70 ?_
          exact cw_iret hx hb hr hlocks hM hq hQQ dcX6_countNumbers_71
        · have hq := tw_if hq hc
          refine lv_iconst (v := 0) hx hb dcX6_countNumbers_62 (by decide) ?_
          refine lv_goto (tgt := 71) hx hb dcX6_countNumbers_63 (by decide) ?_
          exact cw_iret hx hb hr hlocks hM hq hQQ dcX6_countNumbers_71
      · have hq := tw_if hq hc
        by_cases hc : x1 = 2
        · have hq := tw_it hq hc
          refine ow_topi (y := 2) hc ?_
          refine lv_tableIn (x := 2) (tgt := 72) hx hb dcX6_countNumbers_11 (by decide) (by decide) rfl (by decide) ?_
          refine lv_aload_n hx hb dcX6_countNumbers_72 rfl (lv_at hl 1 rfl) ?_
          refine vgX6_29 hx hb hT hown hK hM hr0 dcX6_countNumbers_73 ?_
          refine vgX6_81 hx hb hT hown hK hM (cs_X6_3 hr0) hq dcX6_countNumbers_76 (fun v4 hq => ?_)
          refine lv_aload_n hx hb dcX6_countNumbers_79 rfl (lv_at hl 1 rfl) ?_
          refine vgX6_29 hx hb hT hown hK hM hr0 dcX6_countNumbers_80 ?_
          refine vgX6_81 hx hb hT hown hK hM (cs_X6_3 hr0) hq dcX6_countNumbers_83 (fun v5 hq => ?_)
          refine lv_imul hx hb dcX6_countNumbers_86 ?_
          exact cw_iret hx hb hr hlocks hM hq hQQ dcX6_countNumbers_87
        · have hq := tw_if hq hc
          by_cases hc : x1 = 3
          · have hq := tw_it hq hc
            refine ow_topi (y := 3) hc ?_
            refine lv_tableIn (x := 3) (tgt := 88) hx hb dcX6_countNumbers_11 (by decide) (by decide) rfl (by decide) ?_
            refine lv_aload_n hx hb dcX6_countNumbers_88 rfl (lv_at hl 1 rfl) ?_
            refine vgX6_29 hx hb hT hown hK hM hr0 dcX6_countNumbers_89 ?_
            refine vgX6_81 hx hb hT hown hK hM (cs_X6_3 hr0) hq dcX6_countNumbers_92 (fun v6 hq => ?_)
            refine lv_iconst (v := 2) hx hb dcX6_countNumbers_95 (by decide) ?_
            refine lv_iadd hx hb dcX6_countNumbers_96 ?_
            refine lv_bipush (v := 12) hx hb dcX6_countNumbers_97 (by decide) ?_
            refine lv_icmp_le (tgt := 106) hx hb dcX6_countNumbers_99 (by decide) (fun hc => ?_) (fun hc => ?_)
            · have hq := tw_it hq hc
              refine lv_iload_n hx hb dcX6_countNumbers_106 rfl (lv_at hl 0 rfl) ?_
              refine lv_iconst (v := 1) hx hb dcX6_countNumbers_107 (by decide) ?_
              refine lv_iadd hx hb dcX6_countNumbers_108 ?_
              refine lv_iload_n hx hb dcX6_countNumbers_109 rfl (lv_at hl 0 rfl) ?_
              refine lv_iconst (v := 2) hx hb dcX6_countNumbers_110 (by decide) ?_
              refine lv_iadd hx hb dcX6_countNumbers_111 ?_
              refine lv_imul hx hb dcX6_countNumbers_112 ?_
              refine lv_iconst (v := 4) hx hb dcX6_countNumbers_113 (by decide) ?_
              refine lv_imul hx hb dcX6_countNumbers_114 ?_
              exact cw_iret hx hb hr hlocks hM hq hQQ dcX6_countNumbers_115
            · have hq := tw_if hq hc
              refine lv_iconst (v := 0) hx hb dcX6_countNumbers_102 (by decide) ?_
              refine lv_goto (tgt := 115) hx hb dcX6_countNumbers_103 (by decide) ?_
              exact cw_iret hx hb hr hlocks hM hq hQQ dcX6_countNumbers_115
          · have hq := tw_if hq hc
            cases hq
theorem dcX7_openCircle_0 : decode cX7_openCircle 0 = .ok (.aload_n 0, 1) := by decide +kernel
theorem dcX7_openCircle_1 : decode cX7_openCircle 1 = .ok (.dup, 1) := by decide +kernel
theorem dcX7_openCircle_2 : decode cX7_openCircle 2 = .ok (.getfield 42, 3) := by decide +kernel
theorem dcX7_openCircle_5 : decode cX7_openCircle 5 = .ok (.iconst 1, 1) := by decide +kernel
theorem dcX7_openCircle_6 : decode cX7_openCircle 6 = .ok (.isub, 1) := by decide +kernel
theorem dcX7_openCircle_7 : decode cX7_openCircle 7 = .ok (.putfield 42, 3) := by decide +kernel
theorem dcX7_openCircle_10 : decode cX7_openCircle 10 = .ok (.aload_n 0, 1) := by decide +kernel
theorem dcX7_openCircle_11 : decode cX7_openCircle 11 = .ok (.iload_n 1, 1) := by decide +kernel
theorem dcX7_openCircle_12 : decode cX7_openCircle 12 = .ok (.iload_n 1, 1) := by decide +kernel
theorem dcX7_openCircle_13 : decode cX7_openCircle 13 = .ok (.invokevirtual 54, 3) := by decide +kernel
theorem dcX7_openCircle_16 : decode cX7_openCircle 16 = .ok (.return_, 1) := by decide +kernel
def cm_X7_openCircle_0 (vl : Nat → Nat) (K : Nat) (x1 : Int32) (r0 : Nat) (z : ow_MS) : Option ow_MS :=
 rdF z (r0 + 9) fun v1 => wrF z (r0 + 9) (v1 - 1) fun z2 => cs0 (ce_X7_link vl K r0 x1 x1 z2) fun z3 => some z3
def ce_X7_openCircle (vl : Nat → Nat) (K : Nat) (r0 : Nat) (x1 : Int32) (z : ow_MS) : Option ow_MS := cm_X7_openCircle_0 vl K x1 r0 z
abbrev wc_X7_openCircle : List Cond := .code yX7_openCircle cX7_openCircle 2 none :: wC
theorem cdd_X7_openCircle : yX7_openCircle.cls = RX7 ∧ yX7_openCircle.cls ≠ "java/lang/invoke/MethodHandle" ∧ yX7_openCircle.cls ≠ "java/lang/invoke/VarHandle" ∧ (parseMethodDescriptor yX7_openCircle.desc).map (fun d => d.parameters.length) = some 1 := by decide +kernel
set_option maxHeartbeats 4000000 in
set_option maxRecDepth 100000 in
theorem kc_X7_openCircle (l : Launch) (D : va_G) (q : Nat → ClassId) (vl u : Nat → Nat) (hU0 : tw_inj (cX vl) u) (K : Nat) (r0 : Nat) (x1 : Int32) (hr0 : cw_X7 r0) (z z1 : ow_MS) (hq : ce_X7_openCircle vl K r0 x1 z = some z1) : Met l yX7_openCircle wc_X7_openCircle ({ frames := 1, cells := 0, slots := 0, locals := 22 } : Room) (va_Pc [.ref (u r0), .int x1] (cw_pre D q vl u z)) (va_Qv (fun (_ : Unit) => True) (fun _ t => va_P D vwCl (uw (cX vl) q u z1) t.heap) (tw_A (cX vl) u)) 0 0 (tw_A (cX vl) u) := by
  refine Met.ofW (cc := cX7_openCircle) (maxL := 2) (ret := none) (by decide) rfl ?_
  intro p e s m args below meth c s₁ B hml hv
  obtain ⟨rfl, hP, hK⟩ := hv
  have hx := B.exec
  have hb := B.bytes
  have hr := B.returns
  have hts := atoms_spec (ws := wc_X7_openCircle) B.pre
  have hT : ∀ w ∈ wC, w.before ([.ref (u r0), .int x1] : List Value).toArray s = true := fun w h => hts w (List.mem_cons_of_mem _ h)
  have hown : s.vm.findClass RX7 = some m.cls := findClass_of_methodNamed B.named
  have hlocks := B.notSynchronized
  have hU : uw_inj (cX vl) u (tw_A (cX vl) u) := ⟨hU0, fun h hh => ⟨h, hh, rfl⟩⟩
  have hM : uw_M D vwCl (cX vl) q (tw_A (cX vl) u) s.heap u z s.heap [] := ⟨hP, va_S.rf⟩
  have hl := lv_entry ([.ref (u r0), .int x1]) (n := 2) (Nat.le_of_ble_eq_true rfl)
  rw [lg_entry_eq]
  generalize (lg_sl ([.ref (u r0), .int x1]) ++ List.replicate (2 - (lg_sl ([.ref (u r0), .int x1])).length) Slot.unset).toArray = ls at hl ⊢
  have hl : lv_has ls 2 [(0, .ref (u r0)), (1, .int x1)] := hl
  refine ow_named (fun QQ hQQ => ?_)
  generalize ([.ref (u r0), .int x1] : List Value).toArray = args at hts hT hQQ ⊢
  have hq : cm_X7_openCircle_0 vl K x1 r0 z = some z1 := hq
  unfold cm_X7_openCircle_0 at hq
  suffices key : ∀ (H : Heap) (locs : List Loc), uw_M D vwCl (cX vl) q (tw_A (cX vl) u) s.heap u z H locs → W p l e ({ frames := 1, cells := 0, slots := 0, locals := 22 } : Room) s m args below meth c H locs 0 0 QQ (F0 m 0 ls []) from key s.heap [] hM
  intro H locs hM
  refine lv_aload_n hx hb dcX7_openCircle_0 rfl (lv_at hl 0 rfl) ?_
  refine lv_dup hx hb dcX7_openCircle_1 rfl ?_
  refine vgX7_42 hx hb hT hown hK hM hr0 hq dcX7_openCircle_2 (fun v1 hq => ?_)
  refine lv_iconst (v := 1) hx hb dcX7_openCircle_5 (by decide) ?_
  refine lv_isub hx hb dcX7_openCircle_6 ?_
  refine vpX7_42 hx hb hT hown hK hM hU hr0 hq dcX7_openCircle_7 (fun z2 H locs hM hq => ?_)
  refine lv_aload_n hx hb dcX7_openCircle_10 rfl (lv_at hl 0 rfl) ?_
  refine lv_iload_n hx hb dcX7_openCircle_11 rfl (lv_at hl 1 rfl) ?_
  refine lv_iload_n hx hb dcX7_openCircle_12 rfl (lv_at hl 1 rfl) ?_
  obtain ⟨z3, hcq, hq⟩ := tw_cl0 hq
  refine uw_calv hU hM (va_runV (As := [.int x1, .int x1]) (rest := []) ⟨hx, hb, hml, hown, hts⟩ (kc_X7_link l D q vl u hU.1 K r0 x1 x1 hr0 z2 z3 hcq) (cwV 2 hts (tw_gV wC_good xq_160 xq_161 xq_162 xq_54 xq_163) rfl rfl rfl cdd_X7_link ⟨(Nat.le_of_ble_eq_true rfl), (Nat.le_of_ble_eq_true rfl)⟩) (cw_preV hK hM (co_X7 hr0) rfl) rfl rfl hl.1 rfl (lv_room (Nat.le_of_ble_eq_true rfl)) dcX7_openCircle_13 ⟨(Nat.le_of_ble_eq_true rfl), (Nat.le_of_ble_eq_true rfl)⟩) (fun H locs hM => ?_)
  exact cw_vret hx hb hr hlocks hM hq hQQ dcX7_openCircle_16
theorem dcX7_putBehind_0 : decode cX7_putBehind 0 = .ok (.aload_n 0, 1) := by decide +kernel
theorem dcX7_putBehind_1 : decode cX7_putBehind 1 = .ok (.getfield 9, 3) := by decide +kernel
theorem dcX7_putBehind_4 : decode cX7_putBehind 4 = .ok (.iload_n 1, 1) := by decide +kernel
theorem dcX7_putBehind_5 : decode cX7_putBehind 5 = .ok (.iaload, 1) := by decide +kernel
theorem dcX7_putBehind_6 : decode cX7_putBehind 6 = .ok (.istore_n 3, 1) := by decide +kernel
theorem dcX7_putBehind_7 : decode cX7_putBehind 7 = .ok (.aload_n 0, 1) := by decide +kernel
theorem dcX7_putBehind_8 : decode cX7_putBehind 8 = .ok (.iload_n 1, 1) := by decide +kernel
theorem dcX7_putBehind_9 : decode cX7_putBehind 9 = .ok (.iload_n 2, 1) := by decide +kernel
theorem dcX7_putBehind_10 : decode cX7_putBehind 10 = .ok (.invokevirtual 54, 3) := by decide +kernel
theorem dcX7_putBehind_13 : decode cX7_putBehind 13 = .ok (.aload_n 0, 1) := by decide +kernel
theorem dcX7_putBehind_14 : decode cX7_putBehind 14 = .ok (.iload_n 2, 1) := by decide +kernel
theorem dcX7_putBehind_15 : decode cX7_putBehind 15 = .ok (.iload_n 3, 1) := by decide +kernel
theorem dcX7_putBehind_16 : decode cX7_putBehind 16 = .ok (.invokevirtual 54, 3) := by decide +kernel
theorem dcX7_putBehind_19 : decode cX7_putBehind 19 = .ok (.return_, 1) := by decide +kernel
def cm_X7_putBehind_0 (vl : Nat → Nat) (K : Nat) (x1 : Int32) (x2 : Int32) (r0 : Nat) (z : ow_MS) : Option ow_MS :=
 crI (cX vl) z (r0 + 1) x1 fun v1 => cs0 (ce_X7_link vl K r0 x1 x2 z) fun z2 => cs0 (ce_X7_link vl K r0 x2 v1 z2) fun z3 => some z3
def ce_X7_putBehind (vl : Nat → Nat) (K : Nat) (r0 : Nat) (x1 : Int32) (x2 : Int32) (z : ow_MS) : Option ow_MS := cm_X7_putBehind_0 vl K x1 x2 r0 z
abbrev wc_X7_putBehind : List Cond := .code yX7_putBehind cX7_putBehind 4 none :: wC
theorem cdd_X7_putBehind : yX7_putBehind.cls = RX7 ∧ yX7_putBehind.cls ≠ "java/lang/invoke/MethodHandle" ∧ yX7_putBehind.cls ≠ "java/lang/invoke/VarHandle" ∧ (parseMethodDescriptor yX7_putBehind.desc).map (fun d => d.parameters.length) = some 2 := by decide +kernel
set_option maxHeartbeats 4000000 in
set_option maxRecDepth 100000 in
theorem kc_X7_putBehind (l : Launch) (D : va_G) (q : Nat → ClassId) (vl u : Nat → Nat) (hU0 : tw_inj (cX vl) u) (K : Nat) (r0 : Nat) (x1 : Int32) (x2 : Int32) (hr0 : cw_X7 r0) (z z1 : ow_MS) (hq : ce_X7_putBehind vl K r0 x1 x2 z = some z1) : Met l yX7_putBehind wc_X7_putBehind ({ frames := 1, cells := 0, slots := 0, locals := 22 } : Room) (va_Pc [.ref (u r0), .int x1, .int x2] (cw_pre D q vl u z)) (va_Qv (fun (_ : Unit) => True) (fun _ t => va_P D vwCl (uw (cX vl) q u z1) t.heap) (tw_A (cX vl) u)) 0 0 (tw_A (cX vl) u) := by
  refine Met.ofW (cc := cX7_putBehind) (maxL := 4) (ret := none) (by decide) rfl ?_
  intro p e s m args below meth c s₁ B hml hv
  obtain ⟨rfl, hP, hK⟩ := hv
  have hx := B.exec
  have hb := B.bytes
  have hr := B.returns
  have hts := atoms_spec (ws := wc_X7_putBehind) B.pre
  have hT : ∀ w ∈ wC, w.before ([.ref (u r0), .int x1, .int x2] : List Value).toArray s = true := fun w h => hts w (List.mem_cons_of_mem _ h)
  have hown : s.vm.findClass RX7 = some m.cls := findClass_of_methodNamed B.named
  have hlocks := B.notSynchronized
  have hU : uw_inj (cX vl) u (tw_A (cX vl) u) := ⟨hU0, fun h hh => ⟨h, hh, rfl⟩⟩
  have hM : uw_M D vwCl (cX vl) q (tw_A (cX vl) u) s.heap u z s.heap [] := ⟨hP, va_S.rf⟩
  have hl := lv_entry ([.ref (u r0), .int x1, .int x2]) (n := 4) (Nat.le_of_ble_eq_true rfl)
  rw [lg_entry_eq]
  generalize (lg_sl ([.ref (u r0), .int x1, .int x2]) ++ List.replicate (4 - (lg_sl ([.ref (u r0), .int x1, .int x2])).length) Slot.unset).toArray = ls at hl ⊢
  have hl : lv_has ls 4 [(0, .ref (u r0)), (1, .int x1), (2, .int x2)] := hl
  refine ow_named (fun QQ hQQ => ?_)
  generalize ([.ref (u r0), .int x1, .int x2] : List Value).toArray = args at hts hT hQQ ⊢
  have hq : cm_X7_putBehind_0 vl K x1 x2 r0 z = some z1 := hq
  unfold cm_X7_putBehind_0 at hq
  suffices key : ∀ (H : Heap) (locs : List Loc), uw_M D vwCl (cX vl) q (tw_A (cX vl) u) s.heap u z H locs → W p l e ({ frames := 1, cells := 0, slots := 0, locals := 22 } : Room) s m args below meth c H locs 0 0 QQ (F0 m 0 ls []) from key s.heap [] hM
  intro H locs hM
  refine lv_aload_n hx hb dcX7_putBehind_0 rfl (lv_at hl 0 rfl) ?_
  refine vgX7_9 hx hb hT hown hK hM hr0 dcX7_putBehind_1 ?_
  refine lv_iload_n hx hb dcX7_putBehind_4 rfl (lv_at hl 1 rfl) ?_
  refine uw_iald cX_ok hx hb hK hM (cr_X7_0 hr0) hq dcX7_putBehind_5 (fun v1 hq => ?_)
  refine lv_istore_n (lv' := [(3, .int v1), (0, .ref (u r0)), (1, .int x1), (2, .int x2)]) hx hb dcX7_putBehind_6 rfl hl (by decide) rfl (fun ls hl => ?_)
  refine lv_aload_n hx hb dcX7_putBehind_7 rfl (lv_at hl 1 rfl) ?_
  refine lv_iload_n hx hb dcX7_putBehind_8 rfl (lv_at hl 2 rfl) ?_
  refine lv_iload_n hx hb dcX7_putBehind_9 rfl (lv_at hl 3 rfl) ?_
  obtain ⟨z2, hcq, hq⟩ := tw_cl0 hq
  refine uw_calv hU hM (va_runV (As := [.int x1, .int x2]) (rest := []) ⟨hx, hb, hml, hown, hts⟩ (kc_X7_link l D q vl u hU.1 K r0 x1 x2 hr0 z z2 hcq) (cwV 2 hts (tw_gV wC_good xq_160 xq_161 xq_162 xq_54 xq_163) rfl rfl rfl cdd_X7_link ⟨(Nat.le_of_ble_eq_true rfl), (Nat.le_of_ble_eq_true rfl)⟩) (cw_preV hK hM (co_X7 hr0) rfl) rfl rfl hl.1 rfl (lv_room (Nat.le_of_ble_eq_true rfl)) dcX7_putBehind_10 ⟨(Nat.le_of_ble_eq_true rfl), (Nat.le_of_ble_eq_true rfl)⟩) (fun H locs hM => ?_)
  refine lv_aload_n hx hb dcX7_putBehind_13 rfl (lv_at hl 1 rfl) ?_
  refine lv_iload_n hx hb dcX7_putBehind_14 rfl (lv_at hl 3 rfl) ?_
  refine lv_iload_n hx hb dcX7_putBehind_15 rfl (lv_at hl 0 rfl) ?_
  obtain ⟨z3, hcq, hq⟩ := tw_cl0 hq
  refine uw_calv hU hM (va_runV (As := [.int x2, .int v1]) (rest := []) ⟨hx, hb, hml, hown, hts⟩ (kc_X7_link l D q vl u hU.1 K r0 x2 v1 hr0 z2 z3 hcq) (cwV 2 hts (tw_gV wC_good xq_160 xq_161 xq_162 xq_54 xq_163) rfl rfl rfl cdd_X7_link ⟨(Nat.le_of_ble_eq_true rfl), (Nat.le_of_ble_eq_true rfl)⟩) (cw_preV hK hM (co_X7 hr0) rfl) rfl rfl hl.1 rfl (lv_room (Nat.le_of_ble_eq_true rfl)) dcX7_putBehind_16 ⟨(Nat.le_of_ble_eq_true rfl), (Nat.le_of_ble_eq_true rfl)⟩) (fun H locs hM => ?_)
  exact cw_vret hx hb hr hlocks hM hq hQQ dcX7_putBehind_19
theorem dcX6_placePair_0 : decode cX6_placePair 0 = .ok (.iload_n 1, 1) := by decide +kernel
theorem dcX6_placePair_1 : decode cX6_placePair 1 = .ok (.iconst (-1), 1) := by decide +kernel
theorem dcX6_placePair_2 : decode cX6_placePair 2 = .ok (.if_icmp .ne 14, 3) := by decide +kernel
theorem dcX6_placePair_5 : decode cX6_placePair 5 = .ok (.aload_n 0, 1) := by decide +kernel
theorem dcX6_placePair_6 : decode cX6_placePair 6 = .ok (.getfield 33, 3) := by decide +kernel
theorem dcX6_placePair_9 : decode cX6_placePair 9 = .ok (.iload_n 2, 1) := by decide +kernel
theorem dcX6_placePair_10 : decode cX6_placePair 10 = .ok (.invokevirtual 130, 3) := by decide +kernel
theorem dcX6_placePair_13 : decode cX6_placePair 13 = .ok (.goto 12, 3) := by decide +kernel
theorem dcX6_placePair_16 : decode cX6_placePair 16 = .ok (.aload_n 0, 1) := by decide +kernel
theorem dcX6_placePair_17 : decode cX6_placePair 17 = .ok (.getfield 33, 3) := by decide +kernel
theorem dcX6_placePair_20 : decode cX6_placePair 20 = .ok (.iload_n 1, 1) := by decide +kernel
theorem dcX6_placePair_21 : decode cX6_placePair 21 = .ok (.iload_n 2, 1) := by decide +kernel
theorem dcX6_placePair_22 : decode cX6_placePair 22 = .ok (.invokevirtual 133, 3) := by decide +kernel
theorem dcX6_placePair_25 : decode cX6_placePair 25 = .ok (.aload_n 0, 1) := by decide +kernel
theorem dcX6_placePair_26 : decode cX6_placePair 26 = .ok (.getfield 33, 3) := by decide +kernel
theorem dcX6_placePair_29 : decode cX6_placePair 29 = .ok (.iload_n 2, 1) := by decide +kernel
theorem dcX6_placePair_30 : decode cX6_placePair 30 = .ok (.iload_n 3, 1) := by decide +kernel
theorem dcX6_placePair_31 : decode cX6_placePair 31 = .ok (.invokevirtual 133, 3) := by decide +kernel
theorem dcX6_placePair_34 : decode cX6_placePair 34 = .ok (.return_, 1) := by decide +kernel
def cm_X6_placePair_0 (vl : Nat → Nat) (K : Nat) (go : Nat → Int32 → Int32 → Int32 → Nat → ow_MS → Option ow_MS) (x1 : Int32) (x2 : Int32) (x3 : Int32) (r0 : Nat) (z : ow_MS) : Option ow_MS :=
 (if x1 = (-1) then cs0 (ce_X7_openCircle vl K (r0 + 5000) x2 z) fun z2 => go 1 x1 x2 x3 r0 z2
 else cs0 (ce_X7_putBehind vl K (r0 + 5000) x1 x2 z) fun z1 => go 1 x1 x2 x3 r0 z1)
def cm_X6_placePair_1 (vl : Nat → Nat) (K : Nat) (go : Nat → Int32 → Int32 → Int32 → Nat → ow_MS → Option ow_MS) (x1 : Int32) (x2 : Int32) (x3 : Int32) (r0 : Nat) (z : ow_MS) : Option ow_MS :=
 cs0 (ce_X7_putBehind vl K (r0 + 5000) x2 x3 z) fun z3 => some z3
def cb_X6_placePair (vl : Nat → Nat) (K : Nat) (go : Nat → Int32 → Int32 → Int32 → Nat → ow_MS → Option ow_MS) (L : Nat) (x1 : Int32) (x2 : Int32) (x3 : Int32) (r0 : Nat) (z : ow_MS) : Option ow_MS := match L with
  | 0 => cm_X6_placePair_0 vl K go x1 x2 x3 r0 z
  | 1 => cm_X6_placePair_1 vl K go x1 x2 x3 r0 z
  | _ => none
def c_X6_placePair (vl : Nat → Nat) (K : Nat) : Nat → Nat → Int32 → Int32 → Int32 → Nat → ow_MS → Option ow_MS
  | 0 => fun _ _ _ _ _ _ => none
  | k + 1 => cb_X6_placePair vl K (c_X6_placePair vl K k)
def ce_X6_placePair (vl : Nat → Nat) (K : Nat) (r0 : Nat) (x1 : Int32) (x2 : Int32) (x3 : Int32) (z : ow_MS) : Option ow_MS := c_X6_placePair vl K K 0 x1 x2 x3 r0 z
abbrev wc_X6_placePair : List Cond := .code yX6_placePair cX6_placePair 4 none :: wC
theorem cdd_X6_placePair : yX6_placePair.cls = RX6 ∧ yX6_placePair.cls ≠ "java/lang/invoke/MethodHandle" ∧ yX6_placePair.cls ≠ "java/lang/invoke/VarHandle" ∧ (parseMethodDescriptor yX6_placePair.desc).map (fun d => d.parameters.length) = some 3 := by decide +kernel
set_option maxHeartbeats 4000000 in
set_option maxRecDepth 100000 in
theorem kc_X6_placePair (l : Launch) (D : va_G) (q : Nat → ClassId) (vl u : Nat → Nat) (hU0 : tw_inj (cX vl) u) (K : Nat) (r0 : Nat) (x1 : Int32) (x2 : Int32) (x3 : Int32) (hr0 : cw_X6 r0) (z z1 : ow_MS) (hq : ce_X6_placePair vl K r0 x1 x2 x3 z = some z1) : Met l yX6_placePair wc_X6_placePair ({ frames := 2, cells := 0, slots := 0, locals := 45 } : Room) (va_Pc [.ref (u r0), .int x1, .int x2, .int x3] (cw_pre D q vl u z)) (va_Qv (fun (_ : Unit) => True) (fun _ t => va_P D vwCl (uw (cX vl) q u z1) t.heap) (tw_A (cX vl) u)) 0 0 (tw_A (cX vl) u) := by
  refine Met.ofW (cc := cX6_placePair) (maxL := 4) (ret := none) (by decide) rfl ?_
  intro p e s m args below meth c s₁ B hml hv
  obtain ⟨rfl, hP, hK⟩ := hv
  have hx := B.exec
  have hb := B.bytes
  have hr := B.returns
  have hts := atoms_spec (ws := wc_X6_placePair) B.pre
  have hT : ∀ w ∈ wC, w.before ([.ref (u r0), .int x1, .int x2, .int x3] : List Value).toArray s = true := fun w h => hts w (List.mem_cons_of_mem _ h)
  have hown : s.vm.findClass RX6 = some m.cls := findClass_of_methodNamed B.named
  have hlocks := B.notSynchronized
  have hU : uw_inj (cX vl) u (tw_A (cX vl) u) := ⟨hU0, fun h hh => ⟨h, hh, rfl⟩⟩
  have hM : uw_M D vwCl (cX vl) q (tw_A (cX vl) u) s.heap u z s.heap [] := ⟨hP, va_S.rf⟩
  have hl := lv_entry ([.ref (u r0), .int x1, .int x2, .int x3]) (n := 4) (Nat.le_of_ble_eq_true rfl)
  rw [lg_entry_eq]
  generalize (lg_sl ([.ref (u r0), .int x1, .int x2, .int x3]) ++ List.replicate (4 - (lg_sl ([.ref (u r0), .int x1, .int x2, .int x3])).length) Slot.unset).toArray = ls at hl ⊢
  have hl : lv_has ls 4 [(0, .ref (u r0)), (1, .int x1), (2, .int x2), (3, .int x3)] := hl
  refine ow_named (fun QQ hQQ => ?_)
  generalize ([.ref (u r0), .int x1, .int x2, .int x3] : List Value).toArray = args at hts hT hQQ ⊢
  have key : ∀ k : Nat, (∀ (x1 : Int32) (x2 : Int32) (x3 : Int32) (r0 : Nat) (z : ow_MS) (H : Heap) (locs : List Loc) (ls : Array Slot), cw_X6 r0 → uw_M D vwCl (cX vl) q (tw_A (cX vl) u) s.heap u z H locs → lv_has ls 4 [(0, .ref (u r0)), (1, .int x1), (2, .int x2), (3, .int x3)] → c_X6_placePair vl K k 0 x1 x2 x3 r0 z = some z1 → W p l e ({ frames := 2, cells := 0, slots := 0, locals := 45 } : Room) s m args below meth c H locs 0 0 QQ (F0 m 0 ls [])) ∧ (∀ (x1 : Int32) (x2 : Int32) (x3 : Int32) (r0 : Nat) (z : ow_MS) (H : Heap) (locs : List Loc) (ls : Array Slot), cw_X6 r0 → uw_M D vwCl (cX vl) q (tw_A (cX vl) u) s.heap u z H locs → lv_has ls 4 [(0, .ref (u r0)), (1, .int x1), (2, .int x2), (3, .int x3)] → c_X6_placePair vl K k 1 x1 x2 x3 r0 z = some z1 → W p l e ({ frames := 2, cells := 0, slots := 0, locals := 45 } : Room) s m args below meth c H locs 0 0 QQ (F0 m 25 ls [])) := by
    intro k
    induction k with
    | zero => exact ⟨fun _ _ _ _ _ _ _ _ _ _ _ hq => cw_no hq, fun _ _ _ _ _ _ _ _ _ _ _ hq => cw_no hq⟩
    | succ k ih =>
      obtain ⟨ih_0, ih_1⟩ := ih
      refine ⟨?_, ?_⟩
      · intro x1 x2 x3 r0 z H locs ls hr0 hM hl hq
        have hq : cm_X6_placePair_0 vl K (c_X6_placePair vl K k) x1 x2 x3 r0 z = some z1 := hq
        unfold cm_X6_placePair_0 at hq
        refine lv_iload_n hx hb dcX6_placePair_0 rfl (lv_at hl 1 rfl) ?_
        refine lv_iconst (v := (-1)) hx hb dcX6_placePair_1 (by decide) ?_
        refine lv_icmp_ne (tgt := 16) hx hb dcX6_placePair_2 (by decide) (fun hc => ?_) (fun hc => ?_)
        · have hq := tw_if hq hc
          refine lv_aload_n hx hb dcX6_placePair_16 rfl (lv_at hl 0 rfl) ?_
          refine vgX6_33 hx hb hT hown hK hM hr0 dcX6_placePair_17 ?_
          refine lv_iload_n hx hb dcX6_placePair_20 rfl (lv_at hl 1 rfl) ?_
          refine lv_iload_n hx hb dcX6_placePair_21 rfl (lv_at hl 2 rfl) ?_
          obtain ⟨z1, hcq, hq⟩ := tw_cl0 hq
          refine uw_calv hU hM (va_runV (As := [.int x1, .int x2]) (rest := []) ⟨hx, hb, hml, hown, hts⟩ (kc_X7_putBehind l D q vl u hU.1 K (r0 + 5000) x1 x2 (cs_X6_4 hr0) z z1 hcq) (cwV 2 hts (tw_gV wC_good xq_508 xq_509 xq_510 xq_54 xq_511) rfl rfl rfl cdd_X7_putBehind ⟨(Nat.le_of_ble_eq_true rfl), (Nat.le_of_ble_eq_true rfl)⟩) (cw_preV hK hM (co_X7 (cs_X6_4 hr0)) rfl) rfl rfl hl.1 rfl (lv_room (Nat.le_of_ble_eq_true rfl)) dcX6_placePair_22 ⟨(Nat.le_of_ble_eq_true rfl), (Nat.le_of_ble_eq_true rfl)⟩) (fun H locs hM => ?_)
          exact ih_1 x1 x2 x3 r0 z1 H locs ls hr0 hM (lv_sub hl [0, 1, 2, 3] rfl) hq
        · have hq := tw_it hq hc
          refine lv_aload_n hx hb dcX6_placePair_5 rfl (lv_at hl 0 rfl) ?_
          refine vgX6_33 hx hb hT hown hK hM hr0 dcX6_placePair_6 ?_
          refine lv_iload_n hx hb dcX6_placePair_9 rfl (lv_at hl 2 rfl) ?_
          obtain ⟨z2, hcq, hq⟩ := tw_cl0 hq
          refine uw_calv hU hM (va_runV (As := [.int x2]) (rest := []) ⟨hx, hb, hml, hown, hts⟩ (kc_X7_openCircle l D q vl u hU.1 K (r0 + 5000) x2 (cs_X6_4 hr0) z z2 hcq) (cwV 1 hts (tw_gV wC_good xq_504 xq_505 xq_506 xq_54 xq_507) rfl rfl rfl cdd_X7_openCircle ⟨(Nat.le_of_ble_eq_true rfl), (Nat.le_of_ble_eq_true rfl)⟩) (cw_preV hK hM (co_X7 (cs_X6_4 hr0)) rfl) rfl rfl hl.1 rfl (lv_room (Nat.le_of_ble_eq_true rfl)) dcX6_placePair_10 ⟨(Nat.le_of_ble_eq_true rfl), (Nat.le_of_ble_eq_true rfl)⟩) (fun H locs hM => ?_)
          refine lv_goto (tgt := 25) hx hb dcX6_placePair_13 (by decide) ?_
          exact ih_1 x1 x2 x3 r0 z2 H locs ls hr0 hM (lv_sub hl [0, 1, 2, 3] rfl) hq
      · intro x1 x2 x3 r0 z H locs ls hr0 hM hl hq
        have hq : cm_X6_placePair_1 vl K (c_X6_placePair vl K k) x1 x2 x3 r0 z = some z1 := hq
        unfold cm_X6_placePair_1 at hq
        refine lv_aload_n hx hb dcX6_placePair_25 rfl (lv_at hl 0 rfl) ?_
        refine vgX6_33 hx hb hT hown hK hM hr0 dcX6_placePair_26 ?_
        refine lv_iload_n hx hb dcX6_placePair_29 rfl (lv_at hl 2 rfl) ?_
        refine lv_iload_n hx hb dcX6_placePair_30 rfl (lv_at hl 3 rfl) ?_
        obtain ⟨z3, hcq, hq⟩ := tw_cl0 hq
        refine uw_calv hU hM (va_runV (As := [.int x2, .int x3]) (rest := []) ⟨hx, hb, hml, hown, hts⟩ (kc_X7_putBehind l D q vl u hU.1 K (r0 + 5000) x2 x3 (cs_X6_4 hr0) z z3 hcq) (cwV 2 hts (tw_gV wC_good xq_508 xq_509 xq_510 xq_54 xq_511) rfl rfl rfl cdd_X7_putBehind ⟨(Nat.le_of_ble_eq_true rfl), (Nat.le_of_ble_eq_true rfl)⟩) (cw_preV hK hM (co_X7 (cs_X6_4 hr0)) rfl) rfl rfl hl.1 rfl (lv_room (Nat.le_of_ble_eq_true rfl)) dcX6_placePair_31 ⟨(Nat.le_of_ble_eq_true rfl), (Nat.le_of_ble_eq_true rfl)⟩) (fun H locs hM => ?_)
        exact cw_vret hx hb hr hlocks hM hq hQQ dcX6_placePair_34
  exact (key K).1 x1 x2 x3 r0 z s.heap [] ls hr0 hM (lv_sub hl [0, 1, 2, 3] rfl) hq
theorem dcX6_oneComes_0 : decode cX6_oneComes 0 = .ok (.iconst 2, 1) := dw_at cX6_oneComes_k0 (p := 0) rfl (by decide +kernel)
theorem dcX6_oneComes_1 : decode cX6_oneComes 1 = .ok (.aload_n 0, 1) := dw_at cX6_oneComes_k0 (p := 1) rfl (by decide +kernel)
theorem dcX6_oneComes_2 : decode cX6_oneComes 2 = .ok (.getfield 29, 3) := dw_at cX6_oneComes_k0 (p := 2) rfl (by decide +kernel)
theorem dcX6_oneComes_5 : decode cX6_oneComes 5 = .ok (.getfield 81, 3) := dw_at cX6_oneComes_k0 (p := 5) rfl (by decide +kernel)
theorem dcX6_oneComes_8 : decode cX6_oneComes 8 = .ok (.imul, 1) := dw_at cX6_oneComes_k0 (p := 8) rfl (by decide +kernel)
theorem dcX6_oneComes_9 : decode cX6_oneComes 9 = .ok (.istore_n 3, 1) := dw_at cX6_oneComes_k0 (p := 9) rfl (by decide +kernel)
theorem dcX6_oneComes_10 : decode cX6_oneComes 10 = .ok (.iload_n 1, 1) := dw_at cX6_oneComes_k0 (p := 10) rfl (by decide +kernel)
theorem dcX6_oneComes_11 : decode cX6_oneComes 11 = .ok (.iload_n 3, 1) := dw_at cX6_oneComes_k0 (p := 11) rfl (by decide +kernel)
theorem dcX6_oneComes_12 : decode cX6_oneComes 12 = .ok (.if_icmp .ne 15, 3) := dw_at cX6_oneComes_k0 (p := 12) rfl (by decide +kernel)
theorem dcX6_oneComes_15 : decode cX6_oneComes 15 = .ok (.aload_n 0, 1) := dw_at cX6_oneComes_k0 (p := 15) rfl (by decide +kernel)
theorem dcX6_oneComes_16 : decode cX6_oneComes 16 = .ok (.getfield 29, 3) := dw_at cX6_oneComes_k0 (p := 16) rfl (by decide +kernel)
theorem dcX6_oneComes_19 : decode cX6_oneComes 19 = .ok (.getfield 120, 3) := dw_at cX6_oneComes_k0 (p := 19) rfl (by decide +kernel)
theorem dcX6_oneComes_22 : decode cX6_oneComes 22 = .ok (.ifCond .ne 5, 3) := dw_at cX6_oneComes_k0 (p := 22) rfl (by decide +kernel)
theorem dcX6_oneComes_25 : decode cX6_oneComes 25 = .ok (.iconst 0, 1) := dw_at cX6_oneComes_k1 (p := 0) rfl (by decide +kernel)
theorem dcX6_oneComes_26 : decode cX6_oneComes 26 = .ok (.ireturn, 1) := dw_at cX6_oneComes_k1 (p := 1) rfl (by decide +kernel)
theorem dcX6_oneComes_27 : decode cX6_oneComes 27 = .ok (.aload_n 0, 1) := dw_at cX6_oneComes_k1 (p := 2) rfl (by decide +kernel)
theorem dcX6_oneComes_28 : decode cX6_oneComes 28 = .ok (.getfield 33, 3) := dw_at cX6_oneComes_k1 (p := 3) rfl (by decide +kernel)
theorem dcX6_oneComes_31 : decode cX6_oneComes 31 = .ok (.aload_n 0, 1) := dw_at cX6_oneComes_k1 (p := 6) rfl (by decide +kernel)
theorem dcX6_oneComes_32 : decode cX6_oneComes 32 = .ok (.getfield 29, 3) := dw_at cX6_oneComes_k1 (p := 7) rfl (by decide +kernel)
theorem dcX6_oneComes_35 : decode cX6_oneComes 35 = .ok (.invokevirtual 106, 3) := dw_at cX6_oneComes_k1 (p := 10) rfl (by decide +kernel)
theorem dcX6_oneComes_38 : decode cX6_oneComes 38 = .ok (.aload_n 0, 1) := dw_at cX6_oneComes_k1 (p := 13) rfl (by decide +kernel)
theorem dcX6_oneComes_39 : decode cX6_oneComes 39 = .ok (.getfield 33, 3) := dw_at cX6_oneComes_k1 (p := 14) rfl (by decide +kernel)
theorem dcX6_oneComes_42 : decode cX6_oneComes 42 = .ok (.dup, 1) := dw_at cX6_oneComes_k1 (p := 17) rfl (by decide +kernel)
theorem dcX6_oneComes_43 : decode cX6_oneComes 43 = .ok (.getfield 81, 3) := dw_at cX6_oneComes_k1 (p := 18) rfl (by decide +kernel)
theorem dcX6_oneComes_46 : decode cX6_oneComes 46 = .ok (.iconst 1, 1) := dw_at cX6_oneComes_k1 (p := 21) rfl (by decide +kernel)
theorem dcX6_oneComes_47 : decode cX6_oneComes 47 = .ok (.iadd, 1) := dw_at cX6_oneComes_k1 (p := 22) rfl (by decide +kernel)
theorem dcX6_oneComes_48 : decode cX6_oneComes 48 = .ok (.putfield 81, 3) := dw_at cX6_oneComes_k1 (p := 23) rfl (by decide +kernel)
theorem dcX6_oneComes_51 : decode cX6_oneComes 51 = .ok (.aload_n 0, 1) := dw_at cX6_oneComes_k2 (p := 0) rfl (by decide +kernel)
theorem dcX6_oneComes_52 : decode cX6_oneComes 52 = .ok (.getfield 33, 3) := dw_at cX6_oneComes_k2 (p := 1) rfl (by decide +kernel)
theorem dcX6_oneComes_55 : decode cX6_oneComes 55 = .ok (.getfield 123, 3) := dw_at cX6_oneComes_k2 (p := 4) rfl (by decide +kernel)
theorem dcX6_oneComes_58 : decode cX6_oneComes 58 = .ok (.aload_n 0, 1) := dw_at cX6_oneComes_k2 (p := 7) rfl (by decide +kernel)
theorem dcX6_oneComes_59 : decode cX6_oneComes 59 = .ok (.getfield 29, 3) := dw_at cX6_oneComes_k2 (p := 8) rfl (by decide +kernel)
theorem dcX6_oneComes_62 : decode cX6_oneComes 62 = .ok (.getfield 81, 3) := dw_at cX6_oneComes_k2 (p := 11) rfl (by decide +kernel)
theorem dcX6_oneComes_65 : decode cX6_oneComes 65 = .ok (.iload_n 2, 1) := dw_at cX6_oneComes_k2 (p := 14) rfl (by decide +kernel)
theorem dcX6_oneComes_66 : decode cX6_oneComes 66 = .ok (.iconst 2, 1) := dw_at cX6_oneComes_k2 (p := 15) rfl (by decide +kernel)
theorem dcX6_oneComes_67 : decode cX6_oneComes 67 = .ok (.iand, 1) := dw_at cX6_oneComes_k2 (p := 16) rfl (by decide +kernel)
theorem dcX6_oneComes_68 : decode cX6_oneComes 68 = .ok (.ifCond .ne 7, 3) := dw_at cX6_oneComes_k2 (p := 17) rfl (by decide +kernel)
theorem dcX6_oneComes_71 : decode cX6_oneComes 71 = .ok (.iconst 1, 1) := dw_at cX6_oneComes_k2 (p := 20) rfl (by decide +kernel)
theorem dcX6_oneComes_72 : decode cX6_oneComes 72 = .ok (.goto 4, 3) := dw_at cX6_oneComes_k2 (p := 21) rfl (by decide +kernel)
theorem dcX6_oneComes_75 : decode cX6_oneComes 75 = .ok (.iconst (-1), 1) := dw_at cX6_oneComes_k3 (p := 0) rfl (by decide +kernel)
theorem dcX6_oneComes_76 : decode cX6_oneComes 76 = .ok (.iastore, 1) := dw_at cX6_oneComes_k3 (p := 1) rfl (by decide +kernel)
theorem dcX6_oneComes_77 : decode cX6_oneComes 77 = .ok (.iload_n 3, 1) := dw_at cX6_oneComes_k3 (p := 2) rfl (by decide +kernel)
theorem dcX6_oneComes_78 : decode cX6_oneComes 78 = .ok (.iload_n 2, 1) := dw_at cX6_oneComes_k3 (p := 3) rfl (by decide +kernel)
theorem dcX6_oneComes_79 : decode cX6_oneComes 79 = .ok (.iconst 1, 1) := dw_at cX6_oneComes_k3 (p := 4) rfl (by decide +kernel)
theorem dcX6_oneComes_80 : decode cX6_oneComes 80 = .ok (.iand, 1) := dw_at cX6_oneComes_k3 (p := 5) rfl (by decide +kernel)
theorem dcX6_oneComes_81 : decode cX6_oneComes 81 = .ok (.iadd, 1) := dw_at cX6_oneComes_k3 (p := 6) rfl (by decide +kernel)
theorem dcX6_oneComes_82 : decode cX6_oneComes 82 = .ok (.istore 4, 2) := dw_at cX6_oneComes_k3 (p := 7) rfl (by decide +kernel)
theorem dcX6_oneComes_84 : decode cX6_oneComes 84 = .ok (.aload_n 0, 1) := dw_at cX6_oneComes_k3 (p := 9) rfl (by decide +kernel)
theorem dcX6_oneComes_85 : decode cX6_oneComes 85 = .ok (.iload_n 1, 1) := dw_at cX6_oneComes_k3 (p := 10) rfl (by decide +kernel)
theorem dcX6_oneComes_86 : decode cX6_oneComes 86 = .ok (.iload_n 3, 1) := dw_at cX6_oneComes_k3 (p := 11) rfl (by decide +kernel)
theorem dcX6_oneComes_87 : decode cX6_oneComes 87 = .ok (.if_icmp .ne 7, 3) := dw_at cX6_oneComes_k3 (p := 12) rfl (by decide +kernel)
theorem dcX6_oneComes_90 : decode cX6_oneComes 90 = .ok (.iconst (-1), 1) := dw_at cX6_oneComes_k3 (p := 15) rfl (by decide +kernel)
theorem dcX6_oneComes_91 : decode cX6_oneComes 91 = .ok (.goto 4, 3) := dw_at cX6_oneComes_k3 (p := 16) rfl (by decide +kernel)
theorem dcX6_oneComes_94 : decode cX6_oneComes 94 = .ok (.iload_n 1, 1) := dw_at cX6_oneComes_k3 (p := 19) rfl (by decide +kernel)
theorem dcX6_oneComes_95 : decode cX6_oneComes 95 = .ok (.iload 4, 2) := dw_at cX6_oneComes_k3 (p := 20) rfl (by decide +kernel)
theorem dcX6_oneComes_97 : decode cX6_oneComes 97 = .ok (.iload 4, 2) := dw_at cX6_oneComes_k3 (p := 22) rfl (by decide +kernel)
theorem dcX6_oneComes_99 : decode cX6_oneComes 99 = .ok (.iconst 1, 1) := dw_at cX6_oneComes_k3 (p := 24) rfl (by decide +kernel)
theorem dcX6_oneComes_100 : decode cX6_oneComes 100 = .ok (.ixor, 1) := dw_at cX6_oneComes_k3 (p := 25) rfl (by decide +kernel)
theorem dcX6_oneComes_101 : decode cX6_oneComes 101 = .ok (.invokevirtual 126, 3) := dw_at cX6_oneComes_k3 (p := 26) rfl (by decide +kernel)
theorem dcX6_oneComes_104 : decode cX6_oneComes 104 = .ok (.iconst 1, 1) := dw_at cX6_oneComes_k3 (p := 29) rfl (by decide +kernel)
theorem dcX6_oneComes_105 : decode cX6_oneComes 105 = .ok (.ireturn, 1) := dw_at cX6_oneComes_k3 (p := 30) rfl (by decide +kernel)
def cm_X6_oneComes_0 (vl : Nat → Nat) (K : Nat) (go : Nat → Int32 → Int32 → Int32 → Int32 → Nat → Int32 → Int32 → ow_MS → Option (Int32 × ow_MS)) (x1 : Int32) (x2 : Int32) (x3 : Int32) (x4 : Int32) (r0 : Nat) (t0 : Int32) (t1 : Int32) (z : ow_MS) : Option (Int32 × ow_MS) :=
 rdF z ((r0 + 4000) + 8) fun v1 => (if x1 = (2 * v1) then rdF z ((r0 + 4000) + 9) fun v2 => (if v2 = 0 then okZ 0 (some (0, z))
 else go 1 x1 x2 (2 * v1) 0 r0 0 0 z)
 else go 1 x1 x2 (2 * v1) 0 r0 0 0 z)
def cm_X6_oneComes_1 (vl : Nat → Nat) (K : Nat) (go : Nat → Int32 → Int32 → Int32 → Int32 → Nat → Int32 → Int32 → ow_MS → Option (Int32 × ow_MS)) (x1 : Int32) (x2 : Int32) (x3 : Int32) (x4 : Int32) (r0 : Nat) (t0 : Int32) (t1 : Int32) (z : ow_MS) : Option (Int32 × ow_MS) :=
 cs0 (ce_X7_copy vl K (r0 + 5000) (r0 + 4000) z) fun z3 => rdF z3 ((r0 + 5000) + 8) fun v4 => wrF z3 ((r0 + 5000) + 8) (v4 + 1) fun z5 => rdF z5 ((r0 + 4000) + 8) fun v6 => (if (x2 &&& 2) = 0 then go 2 x1 x2 x3 0 r0 1 v6 z5
 else go 2 x1 x2 x3 0 r0 (-1) v6 z5)
def cm_X6_oneComes_2 (vl : Nat → Nat) (K : Nat) (go : Nat → Int32 → Int32 → Int32 → Int32 → Nat → Int32 → Int32 → ow_MS → Option (Int32 × ow_MS)) (x1 : Int32) (x2 : Int32) (x3 : Int32) (x4 : Int32) (r0 : Nat) (t0 : Int32) (t1 : Int32) (z : ow_MS) : Option (Int32 × ow_MS) :=
 ctI (cX vl) z ((r0 + 5000) + 3) t1 t0 fun z7 => (if x1 = x3 then go 3 x1 x2 x3 (x3 + (x2 &&& 1)) r0 (-1) 0 z7
 else go 3 x1 x2 x3 (x3 + (x2 &&& 1)) r0 x1 0 z7)
def cm_X6_oneComes_3 (vl : Nat → Nat) (K : Nat) (go : Nat → Int32 → Int32 → Int32 → Int32 → Nat → Int32 → Int32 → ow_MS → Option (Int32 × ow_MS)) (x1 : Int32) (x2 : Int32) (x3 : Int32) (x4 : Int32) (r0 : Nat) (t0 : Int32) (t1 : Int32) (z : ow_MS) : Option (Int32 × ow_MS) :=
 cs0 (ce_X6_placePair vl K r0 t0 x4 (x4 ^^^ 1) z) fun z8 => okZ 1 (some (1, z8))
def cb_X6_oneComes (vl : Nat → Nat) (K : Nat) (go : Nat → Int32 → Int32 → Int32 → Int32 → Nat → Int32 → Int32 → ow_MS → Option (Int32 × ow_MS)) (L : Nat) (x1 : Int32) (x2 : Int32) (x3 : Int32) (x4 : Int32) (r0 : Nat) (t0 : Int32) (t1 : Int32) (z : ow_MS) : Option (Int32 × ow_MS) := match L with
  | 0 => cm_X6_oneComes_0 vl K go x1 x2 x3 x4 r0 t0 t1 z
  | 1 => cm_X6_oneComes_1 vl K go x1 x2 x3 x4 r0 t0 t1 z
  | 2 => cm_X6_oneComes_2 vl K go x1 x2 x3 x4 r0 t0 t1 z
  | 3 => cm_X6_oneComes_3 vl K go x1 x2 x3 x4 r0 t0 t1 z
  | _ => none
def c_X6_oneComes (vl : Nat → Nat) (K : Nat) : Nat → Nat → Int32 → Int32 → Int32 → Int32 → Nat → Int32 → Int32 → ow_MS → Option (Int32 × ow_MS)
  | 0 => fun _ _ _ _ _ _ _ _ _ => none
  | k + 1 => cb_X6_oneComes vl K (c_X6_oneComes vl K k)
def ce_X6_oneComes (vl : Nat → Nat) (K : Nat) (r0 : Nat) (x1 : Int32) (x2 : Int32) (z : ow_MS) : Option (Int32 × ow_MS) := c_X6_oneComes vl K K 0 x1 x2 0 0 r0 0 0 z
abbrev wc_X6_oneComes : List Cond := .code yX6_oneComes cX6_oneComes 5 (some .boolean) :: wC
theorem cdd_X6_oneComes : yX6_oneComes.cls = RX6 ∧ yX6_oneComes.cls ≠ "java/lang/invoke/MethodHandle" ∧ yX6_oneComes.cls ≠ "java/lang/invoke/VarHandle" ∧ (parseMethodDescriptor yX6_oneComes.desc).map (fun d => d.parameters.length) = some 2 := by decide +kernel
set_option maxHeartbeats 4000000 in
set_option maxRecDepth 100000 in
theorem kc_X6_oneComes (l : Launch) (D : va_G) (q : Nat → ClassId) (vl u : Nat → Nat) (hU0 : tw_inj (cX vl) u) (K : Nat) (r0 : Nat) (x1 : Int32) (x2 : Int32) (hr0 : cw_X6 r0) (z z1 : ow_MS) (r : Int32) (hq : ce_X6_oneComes vl K r0 x1 x2 z = some (r, z1)) : Met l yX6_oneComes wc_X6_oneComes ({ frames := 3, cells := 0, slots := 0, locals := 81 } : Room) (va_Pc [.ref (u r0), .int x1, .int x2] (cw_pre D q vl u z)) (va_Qi (fun x (_ : Unit) => x = r) (fun _ t => va_P D vwCl (uw (cX vl) q u z1) t.heap) (tw_A (cX vl) u)) 0 0 (tw_A (cX vl) u) := by
  refine Met.ofW (cc := cX6_oneComes) (maxL := 5) (ret := (some .boolean)) (by decide) rfl ?_
  intro p e s m args below meth c s₁ B hml hv
  obtain ⟨rfl, hP, hK⟩ := hv
  have hx := B.exec
  have hb := B.bytes
  have hr := B.returns
  have hts := atoms_spec (ws := wc_X6_oneComes) B.pre
  have hT : ∀ w ∈ wC, w.before ([.ref (u r0), .int x1, .int x2] : List Value).toArray s = true := fun w h => hts w (List.mem_cons_of_mem _ h)
  have hown : s.vm.findClass RX6 = some m.cls := findClass_of_methodNamed B.named
  have hlocks := B.notSynchronized
  have hU : uw_inj (cX vl) u (tw_A (cX vl) u) := ⟨hU0, fun h hh => ⟨h, hh, rfl⟩⟩
  have hM : uw_M D vwCl (cX vl) q (tw_A (cX vl) u) s.heap u z s.heap [] := ⟨hP, va_S.rf⟩
  have hl := lv_entry ([.ref (u r0), .int x1, .int x2]) (n := 5) (Nat.le_of_ble_eq_true rfl)
  rw [lg_entry_eq]
  generalize (lg_sl ([.ref (u r0), .int x1, .int x2]) ++ List.replicate (5 - (lg_sl ([.ref (u r0), .int x1, .int x2])).length) Slot.unset).toArray = ls at hl ⊢
  have hl : lv_has ls 5 [(0, .ref (u r0)), (1, .int x1), (2, .int x2)] := hl
  refine ow_named (fun QQ hQQ => ?_)
  generalize ([.ref (u r0), .int x1, .int x2] : List Value).toArray = args at hts hT hQQ ⊢
  have key : ∀ k : Nat, (∀ (x1 : Int32) (x2 : Int32) (x3 : Int32) (x4 : Int32) (r0 : Nat) (t0 : Int32) (t1 : Int32) (z : ow_MS) (H : Heap) (locs : List Loc) (ls : Array Slot), cw_X6 r0 → uw_M D vwCl (cX vl) q (tw_A (cX vl) u) s.heap u z H locs → lv_has ls 5 [(0, .ref (u r0)), (1, .int x1), (2, .int x2)] → c_X6_oneComes vl K k 0 x1 x2 x3 x4 r0 t0 t1 z = some (r, z1) → W p l e ({ frames := 3, cells := 0, slots := 0, locals := 81 } : Room) s m args below meth c H locs 0 0 QQ (F0 m 0 ls [])) ∧ (∀ (x1 : Int32) (x2 : Int32) (x3 : Int32) (x4 : Int32) (r0 : Nat) (t0 : Int32) (t1 : Int32) (z : ow_MS) (H : Heap) (locs : List Loc) (ls : Array Slot), cw_X6 r0 → uw_M D vwCl (cX vl) q (tw_A (cX vl) u) s.heap u z H locs → lv_has ls 5 [(0, .ref (u r0)), (1, .int x1), (2, .int x2), (3, .int x3)] → c_X6_oneComes vl K k 1 x1 x2 x3 x4 r0 t0 t1 z = some (r, z1) → W p l e ({ frames := 3, cells := 0, slots := 0, locals := 81 } : Room) s m args below meth c H locs 0 0 QQ (F0 m 27 ls [])) ∧ (∀ (x1 : Int32) (x2 : Int32) (x3 : Int32) (x4 : Int32) (r0 : Nat) (t0 : Int32) (t1 : Int32) (z : ow_MS) (H : Heap) (locs : List Loc) (ls : Array Slot), cw_X6 r0 → uw_M D vwCl (cX vl) q (tw_A (cX vl) u) s.heap u z H locs → lv_has ls 5 [(0, .ref (u r0)), (1, .int x1), (2, .int x2), (3, .int x3)] → c_X6_oneComes vl K k 2 x1 x2 x3 x4 r0 t0 t1 z = some (r, z1) → W p l e ({ frames := 3, cells := 0, slots := 0, locals := 81 } : Room) s m args below meth c H locs 0 0 QQ (F0 m 76 ls [.int t0, .int t1, .ref (u ((r0 + 5000) + 3))])) ∧ (∀ (x1 : Int32) (x2 : Int32) (x3 : Int32) (x4 : Int32) (r0 : Nat) (t0 : Int32) (t1 : Int32) (z : ow_MS) (H : Heap) (locs : List Loc) (ls : Array Slot), cw_X6 r0 → uw_M D vwCl (cX vl) q (tw_A (cX vl) u) s.heap u z H locs → lv_has ls 5 [(0, .ref (u r0)), (1, .int x1), (2, .int x2), (3, .int x3), (4, .int x4)] → c_X6_oneComes vl K k 3 x1 x2 x3 x4 r0 t0 t1 z = some (r, z1) → W p l e ({ frames := 3, cells := 0, slots := 0, locals := 81 } : Room) s m args below meth c H locs 0 0 QQ (F0 m 95 ls [.int t0, .ref (u r0)])) := by
    intro k
    induction k with
    | zero => exact ⟨fun _ _ _ _ _ _ _ _ _ _ _ _ _ _ hq => cw_no hq, fun _ _ _ _ _ _ _ _ _ _ _ _ _ _ hq => cw_no hq, fun _ _ _ _ _ _ _ _ _ _ _ _ _ _ hq => cw_no hq, fun _ _ _ _ _ _ _ _ _ _ _ _ _ _ hq => cw_no hq⟩
    | succ k ih =>
      obtain ⟨ih_0, ih_1, ih_2, ih_3⟩ := ih
      refine ⟨?_, ?_, ?_, ?_⟩
      · intro x1 x2 x3 x4 r0 t0 t1 z H locs ls hr0 hM hl hq
        have hq : cm_X6_oneComes_0 vl K (c_X6_oneComes vl K k) x1 x2 x3 x4 r0 t0 t1 z = some (r, z1) := hq
        unfold cm_X6_oneComes_0 at hq
        refine lv_iconst (v := 2) hx hb dcX6_oneComes_0 (by decide) ?_
        refine lv_aload_n hx hb dcX6_oneComes_1 rfl (lv_at hl 0 rfl) ?_
        refine vgX6_29 hx hb hT hown hK hM hr0 dcX6_oneComes_2 ?_
        refine vgX6_81 hx hb hT hown hK hM (cs_X6_3 hr0) hq dcX6_oneComes_5 (fun v1 hq => ?_)
        refine lv_imul hx hb dcX6_oneComes_8 ?_
        refine lv_istore_n (lv' := [(3, .int (2 * v1)), (0, .ref (u r0)), (1, .int x1), (2, .int x2)]) hx hb dcX6_oneComes_9 rfl hl (by decide) rfl (fun ls hl => ?_)
        refine lv_iload_n hx hb dcX6_oneComes_10 rfl (lv_at hl 2 rfl) ?_
        refine lv_iload_n hx hb dcX6_oneComes_11 rfl (lv_at hl 0 rfl) ?_
        refine lv_icmp_ne (tgt := 27) hx hb dcX6_oneComes_12 (by decide) (fun hc => ?_) (fun hc => ?_)
        · have hq := tw_if hq hc
          exact ih_1 x1 x2 (2 * v1) 0 r0 0 0 z H locs ls hr0 hM (lv_sub hl [1, 2, 3, 0] rfl) hq
        · have hq := tw_it hq hc
          refine lv_aload_n hx hb dcX6_oneComes_15 rfl (lv_at hl 1 rfl) ?_
          refine vgX6_29 hx hb hT hown hK hM hr0 dcX6_oneComes_16 ?_
          refine vgX6_120 hx hb hT hown hK hM (cs_X6_3 hr0) hq dcX6_oneComes_19 (fun v2 hq => ?_)
          refine lv_if_ne (tgt := 27) hx hb dcX6_oneComes_22 (by decide) (fun hc => ?_) (fun hc => ?_)
          · have hq := tw_if hq hc
            exact ih_1 x1 x2 (2 * v1) 0 r0 0 0 z H locs ls hr0 hM (lv_sub hl [1, 2, 3, 0] rfl) hq
          · have hq := tw_it hq hc
            refine lv_iconst (v := 0) hx hb dcX6_oneComes_25 (by decide) ?_
            obtain ⟨hz, hq⟩ := tw_gZ hq
            exact cw_zret hx hb hr hlocks hM hz hq hQQ dcX6_oneComes_26
      · intro x1 x2 x3 x4 r0 t0 t1 z H locs ls hr0 hM hl hq
        have hq : cm_X6_oneComes_1 vl K (c_X6_oneComes vl K k) x1 x2 x3 x4 r0 t0 t1 z = some (r, z1) := hq
        unfold cm_X6_oneComes_1 at hq
        refine lv_aload_n hx hb dcX6_oneComes_27 rfl (lv_at hl 0 rfl) ?_
        refine vgX6_33 hx hb hT hown hK hM hr0 dcX6_oneComes_28 ?_
        refine lv_aload_n hx hb dcX6_oneComes_31 rfl (lv_at hl 0 rfl) ?_
        refine vgX6_29 hx hb hT hown hK hM hr0 dcX6_oneComes_32 ?_
        obtain ⟨z3, hcq, hq⟩ := tw_cl0 hq
        refine uw_calv hU hM (va_runV (As := [.ref (u (r0 + 4000))]) (rest := []) ⟨hx, hb, hml, hown, hts⟩ (kc_X7_copy l D q vl u hU.1 K (r0 + 5000) (r0 + 4000) (cs_X6_4 hr0) (cs_X6_3 hr0) z z3 hcq) (cwV 1 hts (tw_gV wC_good xq_493 xq_125 xq_126 xq_54 xq_127) rfl rfl rfl cdd_X7_copy ⟨(Nat.le_of_ble_eq_true rfl), (Nat.le_of_ble_eq_true rfl)⟩) (cw_preV hK hM (co_X7 (cs_X6_4 hr0)) rfl) rfl rfl hl.1 rfl (lv_room (Nat.le_of_ble_eq_true rfl)) dcX6_oneComes_35 ⟨(Nat.le_of_ble_eq_true rfl), (Nat.le_of_ble_eq_true rfl)⟩) (fun H locs hM => ?_)
        refine lv_aload_n hx hb dcX6_oneComes_38 rfl (lv_at hl 0 rfl) ?_
        refine vgX6_33 hx hb hT hown hK hM hr0 dcX6_oneComes_39 ?_
        refine lv_dup hx hb dcX6_oneComes_42 rfl ?_
        refine vgX6_81 hx hb hT hown hK hM (cs_X6_4 hr0) hq dcX6_oneComes_43 (fun v4 hq => ?_)
        refine lv_iconst (v := 1) hx hb dcX6_oneComes_46 (by decide) ?_
        refine lv_iadd hx hb dcX6_oneComes_47 ?_
        refine vpX6_81 hx hb hT hown hK hM hU (cs_X6_4 hr0) hq dcX6_oneComes_48 (fun z5 H locs hM hq => ?_)
        refine lv_aload_n hx hb dcX6_oneComes_51 rfl (lv_at hl 0 rfl) ?_
        refine vgX6_33 hx hb hT hown hK hM hr0 dcX6_oneComes_52 ?_
        refine vgX6_123 hx hb hT hown hK hM (cs_X6_4 hr0) dcX6_oneComes_55 ?_
        refine lv_aload_n hx hb dcX6_oneComes_58 rfl (lv_at hl 0 rfl) ?_
        refine vgX6_29 hx hb hT hown hK hM hr0 dcX6_oneComes_59 ?_
        refine vgX6_81 hx hb hT hown hK hM (cs_X6_3 hr0) hq dcX6_oneComes_62 (fun v6 hq => ?_)
        refine lv_iload_n hx hb dcX6_oneComes_65 rfl (lv_at hl 2 rfl) ?_
        refine lv_iconst (v := 2) hx hb dcX6_oneComes_66 (by decide) ?_
        refine lv_iand hx hb dcX6_oneComes_67 ?_
        refine lv_if_ne (tgt := 75) hx hb dcX6_oneComes_68 (by decide) (fun hc => ?_) (fun hc => ?_)
        · have hq := tw_if hq hc
          refine lv_iconst (v := (-1)) hx hb dcX6_oneComes_75 (by decide) ?_
          exact ih_2 x1 x2 x3 0 r0 (-1) v6 z5 H locs ls hr0 hM (lv_sub hl [0, 1, 2, 3] rfl) hq
        · have hq := tw_it hq hc
          refine lv_iconst (v := 1) hx hb dcX6_oneComes_71 (by decide) ?_
          refine lv_goto (tgt := 76) hx hb dcX6_oneComes_72 (by decide) ?_
          exact ih_2 x1 x2 x3 0 r0 1 v6 z5 H locs ls hr0 hM (lv_sub hl [0, 1, 2, 3] rfl) hq
      · intro x1 x2 x3 x4 r0 t0 t1 z H locs ls hr0 hM hl hq
        have hq : cm_X6_oneComes_2 vl K (c_X6_oneComes vl K k) x1 x2 x3 x4 r0 t0 t1 z = some (r, z1) := hq
        unfold cm_X6_oneComes_2 at hq
        refine uw_iast cX_ok hU hx hb hK hM (cr_X7_2 (cs_X6_4 hr0)) hq dcX6_oneComes_76 (fun z7 H locs hM hq => ?_)
        refine lv_iload_n hx hb dcX6_oneComes_77 rfl (lv_at hl 3 rfl) ?_
        refine lv_iload_n hx hb dcX6_oneComes_78 rfl (lv_at hl 2 rfl) ?_
        refine lv_iconst (v := 1) hx hb dcX6_oneComes_79 (by decide) ?_
        refine lv_iand hx hb dcX6_oneComes_80 ?_
        refine lv_iadd hx hb dcX6_oneComes_81 ?_
        refine lv_istore (lv' := [(4, .int (x3 + (x2 &&& 1))), (0, .ref (u r0)), (1, .int x1), (2, .int x2), (3, .int x3)]) hx hb dcX6_oneComes_82 hl (by decide) rfl (fun ls hl => ?_)
        refine lv_aload_n hx hb dcX6_oneComes_84 rfl (lv_at hl 1 rfl) ?_
        refine lv_iload_n hx hb dcX6_oneComes_85 rfl (lv_at hl 2 rfl) ?_
        refine lv_iload_n hx hb dcX6_oneComes_86 rfl (lv_at hl 4 rfl) ?_
        refine lv_icmp_ne (tgt := 94) hx hb dcX6_oneComes_87 (by decide) (fun hc => ?_) (fun hc => ?_)
        · have hq := tw_if hq hc
          refine lv_iload_n hx hb dcX6_oneComes_94 rfl (lv_at hl 2 rfl) ?_
          exact ih_3 x1 x2 x3 (x3 + (x2 &&& 1)) r0 x1 0 z7 H locs ls hr0 hM (lv_sub hl [1, 2, 3, 4, 0] rfl) hq
        · have hq := tw_it hq hc
          refine lv_iconst (v := (-1)) hx hb dcX6_oneComes_90 (by decide) ?_
          refine lv_goto (tgt := 95) hx hb dcX6_oneComes_91 (by decide) ?_
          exact ih_3 x1 x2 x3 (x3 + (x2 &&& 1)) r0 (-1) 0 z7 H locs ls hr0 hM (lv_sub hl [1, 2, 3, 4, 0] rfl) hq
      · intro x1 x2 x3 x4 r0 t0 t1 z H locs ls hr0 hM hl hq
        have hq : cm_X6_oneComes_3 vl K (c_X6_oneComes vl K k) x1 x2 x3 x4 r0 t0 t1 z = some (r, z1) := hq
        unfold cm_X6_oneComes_3 at hq
        refine lv_iload hx hb dcX6_oneComes_95 (lv_at hl 4 rfl) ?_
        refine lv_iload hx hb dcX6_oneComes_97 (lv_at hl 4 rfl) ?_
        refine lv_iconst (v := 1) hx hb dcX6_oneComes_99 (by decide) ?_
        refine lv_ixor hx hb dcX6_oneComes_100 ?_
        obtain ⟨z8, hcq, hq⟩ := tw_cl0 hq
        refine uw_calv hU hM (va_runV (As := [.int t0, .int x4, .int (x4 ^^^ 1)]) (rest := []) ⟨hx, hb, hml, hown, hts⟩ (kc_X6_placePair l D q vl u hU.1 K r0 t0 x4 (x4 ^^^ 1) hr0 z z8 hcq) (cwV 3 hts (tw_gV wC_good xq_500 xq_501 xq_502 xq_146 xq_503) rfl rfl rfl cdd_X6_placePair ⟨(Nat.le_of_ble_eq_true rfl), (Nat.le_of_ble_eq_true rfl)⟩) (cw_preV hK hM (co_X6 hr0) rfl) rfl rfl hl.1 rfl (lv_room (Nat.le_of_ble_eq_true rfl)) dcX6_oneComes_101 ⟨(Nat.le_of_ble_eq_true rfl), (Nat.le_of_ble_eq_true rfl)⟩) (fun H locs hM => ?_)
        refine lv_iconst (v := 1) hx hb dcX6_oneComes_104 (by decide) ?_
        obtain ⟨hz, hq⟩ := tw_gZ hq
        exact cw_zret hx hb hr hlocks hM hz hq hQQ dcX6_oneComes_105
  exact (key K).1 x1 x2 0 0 r0 0 0 z s.heap [] ls hr0 hM (lv_sub hl [0, 1, 2] rfl) hq
theorem dcX6_oneGoes_0 : decode cX6_oneGoes 0 = .ok (.aload_n 0, 1) := by decide +kernel
theorem dcX6_oneGoes_1 : decode cX6_oneGoes 1 = .ok (.getfield 29, 3) := by decide +kernel
theorem dcX6_oneGoes_4 : decode cX6_oneGoes 4 = .ok (.iload_n 1, 1) := by decide +kernel
theorem dcX6_oneGoes_5 : decode cX6_oneGoes 5 = .ok (.invokestatic 102, 3) := by decide +kernel
theorem dcX6_oneGoes_8 : decode cX6_oneGoes 8 = .ok (.ifCond .ne 5, 3) := by decide +kernel
theorem dcX6_oneGoes_11 : decode cX6_oneGoes 11 = .ok (.iconst 0, 1) := by decide +kernel
theorem dcX6_oneGoes_12 : decode cX6_oneGoes 12 = .ok (.ireturn, 1) := by decide +kernel
theorem dcX6_oneGoes_13 : decode cX6_oneGoes 13 = .ok (.aload_n 0, 1) := by decide +kernel
theorem dcX6_oneGoes_14 : decode cX6_oneGoes 14 = .ok (.getfield 33, 3) := by decide +kernel
theorem dcX6_oneGoes_17 : decode cX6_oneGoes 17 = .ok (.aload_n 0, 1) := by decide +kernel
theorem dcX6_oneGoes_18 : decode cX6_oneGoes 18 = .ok (.getfield 29, 3) := by decide +kernel
theorem dcX6_oneGoes_21 : decode cX6_oneGoes 21 = .ok (.invokevirtual 106, 3) := by decide +kernel
theorem dcX6_oneGoes_24 : decode cX6_oneGoes 24 = .ok (.aload_n 0, 1) := by decide +kernel
theorem dcX6_oneGoes_25 : decode cX6_oneGoes 25 = .ok (.getfield 33, 3) := by decide +kernel
theorem dcX6_oneGoes_28 : decode cX6_oneGoes 28 = .ok (.iload_n 1, 1) := by decide +kernel
theorem dcX6_oneGoes_29 : decode cX6_oneGoes 29 = .ok (.invokevirtual 109, 3) := by decide +kernel
theorem dcX6_oneGoes_32 : decode cX6_oneGoes 32 = .ok (.iconst 1, 1) := by decide +kernel
theorem dcX6_oneGoes_33 : decode cX6_oneGoes 33 = .ok (.ireturn, 1) := by decide +kernel
def cm_X6_oneGoes_0 (vl : Nat → Nat) (K : Nat) (x1 : Int32) (r0 : Nat) (z : ow_MS) : Option (Int32 × ow_MS) :=
 cs1 (ce_X6_isLoop vl K (r0 + 4000) x1 z) fun v2 z1 => (if v2 = 0 then okZ 0 (some (0, z1))
 else cs0 (ce_X7_copy vl K (r0 + 5000) (r0 + 4000) z1) fun z3 => cs0 (ce_X7_removeCrossing vl K (r0 + 5000) x1 z3) fun z4 => okZ 1 (some (1, z4)))
def ce_X6_oneGoes (vl : Nat → Nat) (K : Nat) (r0 : Nat) (x1 : Int32) (z : ow_MS) : Option (Int32 × ow_MS) := cm_X6_oneGoes_0 vl K x1 r0 z
abbrev wc_X6_oneGoes : List Cond := .code yX6_oneGoes cX6_oneGoes 2 (some .boolean) :: wC
theorem cdd_X6_oneGoes : yX6_oneGoes.cls = RX6 ∧ yX6_oneGoes.cls ≠ "java/lang/invoke/MethodHandle" ∧ yX6_oneGoes.cls ≠ "java/lang/invoke/VarHandle" ∧ (parseMethodDescriptor yX6_oneGoes.desc).map (fun d => d.parameters.length) = some 1 := by decide +kernel
set_option maxHeartbeats 4000000 in
set_option maxRecDepth 100000 in
theorem kc_X6_oneGoes (l : Launch) (D : va_G) (q : Nat → ClassId) (vl u : Nat → Nat) (hU0 : tw_inj (cX vl) u) (K : Nat) (r0 : Nat) (x1 : Int32) (hr0 : cw_X6 r0) (z z1 : ow_MS) (r : Int32) (hq : ce_X6_oneGoes vl K r0 x1 z = some (r, z1)) : Met l yX6_oneGoes wc_X6_oneGoes ({ frames := 3, cells := 0, slots := 0, locals := 81 } : Room) (va_Pc [.ref (u r0), .int x1] (cw_pre D q vl u z)) (va_Qi (fun x (_ : Unit) => x = r) (fun _ t => va_P D vwCl (uw (cX vl) q u z1) t.heap) (tw_A (cX vl) u)) 0 0 (tw_A (cX vl) u) := by
  refine Met.ofW (cc := cX6_oneGoes) (maxL := 2) (ret := (some .boolean)) (by decide) rfl ?_
  intro p e s m args below meth c s₁ B hml hv
  obtain ⟨rfl, hP, hK⟩ := hv
  have hx := B.exec
  have hb := B.bytes
  have hr := B.returns
  have hts := atoms_spec (ws := wc_X6_oneGoes) B.pre
  have hT : ∀ w ∈ wC, w.before ([.ref (u r0), .int x1] : List Value).toArray s = true := fun w h => hts w (List.mem_cons_of_mem _ h)
  have hown : s.vm.findClass RX6 = some m.cls := findClass_of_methodNamed B.named
  have hlocks := B.notSynchronized
  have hU : uw_inj (cX vl) u (tw_A (cX vl) u) := ⟨hU0, fun h hh => ⟨h, hh, rfl⟩⟩
  have hM : uw_M D vwCl (cX vl) q (tw_A (cX vl) u) s.heap u z s.heap [] := ⟨hP, va_S.rf⟩
  have hl := lv_entry ([.ref (u r0), .int x1]) (n := 2) (Nat.le_of_ble_eq_true rfl)
  rw [lg_entry_eq]
  generalize (lg_sl ([.ref (u r0), .int x1]) ++ List.replicate (2 - (lg_sl ([.ref (u r0), .int x1])).length) Slot.unset).toArray = ls at hl ⊢
  have hl : lv_has ls 2 [(0, .ref (u r0)), (1, .int x1)] := hl
  refine ow_named (fun QQ hQQ => ?_)
  generalize ([.ref (u r0), .int x1] : List Value).toArray = args at hts hT hQQ ⊢
  have hq : cm_X6_oneGoes_0 vl K x1 r0 z = some (r, z1) := hq
  unfold cm_X6_oneGoes_0 at hq
  suffices key : ∀ (H : Heap) (locs : List Loc), uw_M D vwCl (cX vl) q (tw_A (cX vl) u) s.heap u z H locs → W p l e ({ frames := 3, cells := 0, slots := 0, locals := 81 } : Room) s m args below meth c H locs 0 0 QQ (F0 m 0 ls []) from key s.heap [] hM
  intro H locs hM
  refine lv_aload_n hx hb dcX6_oneGoes_0 rfl (lv_at hl 0 rfl) ?_
  refine vgX6_29 hx hb hT hown hK hM hr0 dcX6_oneGoes_1 ?_
  refine lv_iload_n hx hb dcX6_oneGoes_4 rfl (lv_at hl 1 rfl) ?_
  obtain ⟨v2, z1, hcq, hq⟩ := tw_cl1 hq
  refine uw_cali hU hM (va_runS (As := [.ref (u (r0 + 4000)), .int x1]) (rest := []) ⟨hx, hb, hml, hown, hts⟩ (kc_X6_isLoop l D q vl u hU.1 K (r0 + 4000) x1 (cs_X6_3 hr0) z z1 v2 hcq) (va_cwS 2 hts (tw_gS wC_good xq_492 xq_145 xq_146 xq_147) rfl rfl rfl cdd_X6_isLoop ⟨(Nat.le_of_ble_eq_true rfl), (Nat.le_of_ble_eq_true rfl)⟩) (cw_preS hK hM) rfl rfl hl.1 rfl (lv_room (Nat.le_of_ble_eq_true rfl)) dcX6_oneGoes_5 ⟨(Nat.le_of_ble_eq_true rfl), (Nat.le_of_ble_eq_true rfl)⟩) (fun H locs hM => ?_)
  refine lv_if_ne (tgt := 13) hx hb dcX6_oneGoes_8 (by decide) (fun hc => ?_) (fun hc => ?_)
  · have hq := tw_if hq hc
    refine lv_aload_n hx hb dcX6_oneGoes_13 rfl (lv_at hl 0 rfl) ?_
    refine vgX6_33 hx hb hT hown hK hM hr0 dcX6_oneGoes_14 ?_
    refine lv_aload_n hx hb dcX6_oneGoes_17 rfl (lv_at hl 0 rfl) ?_
    refine vgX6_29 hx hb hT hown hK hM hr0 dcX6_oneGoes_18 ?_
    obtain ⟨z3, hcq, hq⟩ := tw_cl0 hq
    refine uw_calv hU hM (va_runV (As := [.ref (u (r0 + 4000))]) (rest := []) ⟨hx, hb, hml, hown, hts⟩ (kc_X7_copy l D q vl u hU.1 K (r0 + 5000) (r0 + 4000) (cs_X6_4 hr0) (cs_X6_3 hr0) z1 z3 hcq) (cwV 1 hts (tw_gV wC_good xq_493 xq_125 xq_126 xq_54 xq_127) rfl rfl rfl cdd_X7_copy ⟨(Nat.le_of_ble_eq_true rfl), (Nat.le_of_ble_eq_true rfl)⟩) (cw_preV hK hM (co_X7 (cs_X6_4 hr0)) rfl) rfl rfl hl.1 rfl (lv_room (Nat.le_of_ble_eq_true rfl)) dcX6_oneGoes_21 ⟨(Nat.le_of_ble_eq_true rfl), (Nat.le_of_ble_eq_true rfl)⟩) (fun H locs hM => ?_)
    refine lv_aload_n hx hb dcX6_oneGoes_24 rfl (lv_at hl 0 rfl) ?_
    refine vgX6_33 hx hb hT hown hK hM hr0 dcX6_oneGoes_25 ?_
    refine lv_iload_n hx hb dcX6_oneGoes_28 rfl (lv_at hl 1 rfl) ?_
    obtain ⟨z4, hcq, hq⟩ := tw_cl0 hq
    refine uw_calv hU hM (va_runV (As := [.int x1]) (rest := []) ⟨hx, hb, hml, hown, hts⟩ (kc_X7_removeCrossing l D q vl u hU.1 K (r0 + 5000) x1 (cs_X6_4 hr0) z3 z4 hcq) (cwV 1 hts (tw_gV wC_good xq_494 xq_153 xq_154 xq_54 xq_155) rfl rfl rfl cdd_X7_removeCrossing ⟨(Nat.le_of_ble_eq_true rfl), (Nat.le_of_ble_eq_true rfl)⟩) (cw_preV hK hM (co_X7 (cs_X6_4 hr0)) rfl) rfl rfl hl.1 rfl (lv_room (Nat.le_of_ble_eq_true rfl)) dcX6_oneGoes_29 ⟨(Nat.le_of_ble_eq_true rfl), (Nat.le_of_ble_eq_true rfl)⟩) (fun H locs hM => ?_)
    refine lv_iconst (v := 1) hx hb dcX6_oneGoes_32 (by decide) ?_
    obtain ⟨hz, hq⟩ := tw_gZ hq
    exact cw_zret hx hb hr hlocks hM hz hq hQQ dcX6_oneGoes_33
  · have hq := tw_it hq hc
    refine lv_iconst (v := 0) hx hb dcX6_oneGoes_11 (by decide) ?_
    obtain ⟨hz, hq⟩ := tw_gZ hq
    exact cw_zret hx hb hr hlocks hM hz hq hQQ dcX6_oneGoes_12
theorem dcX6_isOver_0 : decode cX6_isOver 0 = .ok (.iload_n 1, 1) := by decide +kernel
theorem dcX6_isOver_1 : decode cX6_isOver 1 = .ok (.iconst 1, 1) := by decide +kernel
theorem dcX6_isOver_2 : decode cX6_isOver 2 = .ok (.ishr, 1) := by decide +kernel
theorem dcX6_isOver_3 : decode cX6_isOver 3 = .ok (.istore_n 2, 1) := by decide +kernel
theorem dcX6_isOver_4 : decode cX6_isOver 4 = .ok (.iload_n 2, 1) := by decide +kernel
theorem dcX6_isOver_5 : decode cX6_isOver 5 = .ok (.iconst 1, 1) := by decide +kernel
theorem dcX6_isOver_6 : decode cX6_isOver 6 = .ok (.iand, 1) := by decide +kernel
theorem dcX6_isOver_7 : decode cX6_isOver 7 = .ok (.ifCond .ne 21, 3) := by decide +kernel
theorem dcX6_isOver_10 : decode cX6_isOver 10 = .ok (.aload_n 0, 1) := by decide +kernel
theorem dcX6_isOver_11 : decode cX6_isOver 11 = .ok (.getfield 29, 3) := by decide +kernel
theorem dcX6_isOver_14 : decode cX6_isOver 14 = .ok (.getfield 116, 3) := by decide +kernel
theorem dcX6_isOver_17 : decode cX6_isOver 17 = .ok (.iload_n 2, 1) := by decide +kernel
theorem dcX6_isOver_18 : decode cX6_isOver 18 = .ok (.iaload, 1) := by decide +kernel
theorem dcX6_isOver_19 : decode cX6_isOver 19 = .ok (.iconst 1, 1) := by decide +kernel
theorem dcX6_isOver_20 : decode cX6_isOver 20 = .ok (.iand, 1) := by decide +kernel
theorem dcX6_isOver_21 : decode cX6_isOver 21 = .ok (.ifCond .ne 7, 3) := by decide +kernel
theorem dcX6_isOver_24 : decode cX6_isOver 24 = .ok (.iconst 1, 1) := by decide +kernel
theorem dcX6_isOver_25 : decode cX6_isOver 25 = .ok (.goto 4, 3) := by decide +kernel
theorem dcX6_isOver_28 : decode cX6_isOver 28 = .ok (.iconst 0, 1) := by decide +kernel
theorem dcX6_isOver_29 : decode cX6_isOver 29 = .ok (.ireturn, 1) := by decide +kernel
def cm_X6_isOver_0 (vl : Nat → Nat) (K : Nat) (x1 : Int32) (r0 : Nat) (z : ow_MS) : Option (Int32 × ow_MS) :=
 (if (((x1 : Int32) >>> ((1 : Int32) &&& 31)) &&& 1) = 0 then crI (cX vl) z ((r0 + 4000) + 1) ((x1 : Int32) >>> ((1 : Int32) &&& 31)) fun v1 => (if (v1 &&& 1) = 0 then okZ 1 (some (1, z))
 else okZ 0 (some (0, z)))
 else okZ 0 (some (0, z)))
def ce_X6_isOver (vl : Nat → Nat) (K : Nat) (r0 : Nat) (x1 : Int32) (z : ow_MS) : Option (Int32 × ow_MS) := cm_X6_isOver_0 vl K x1 r0 z
abbrev wc_X6_isOver : List Cond := .code yX6_isOver cX6_isOver 3 (some .boolean) :: wC
theorem cdd_X6_isOver : yX6_isOver.cls = RX6 ∧ yX6_isOver.cls ≠ "java/lang/invoke/MethodHandle" ∧ yX6_isOver.cls ≠ "java/lang/invoke/VarHandle" ∧ (parseMethodDescriptor yX6_isOver.desc).map (fun d => d.parameters.length) = some 1 := by decide +kernel
set_option maxHeartbeats 4000000 in
set_option maxRecDepth 100000 in
theorem kc_X6_isOver (l : Launch) (D : va_G) (q : Nat → ClassId) (vl u : Nat → Nat) (hU0 : tw_inj (cX vl) u) (K : Nat) (r0 : Nat) (x1 : Int32) (hr0 : cw_X6 r0) (z z1 : ow_MS) (r : Int32) (hq : ce_X6_isOver vl K r0 x1 z = some (r, z1)) : Met l yX6_isOver wc_X6_isOver ({ frames := 0, cells := 0, slots := 0, locals := 0 } : Room) (va_Pc [.ref (u r0), .int x1] (cw_pre D q vl u z)) (va_Qi (fun x (_ : Unit) => x = r) (fun _ t => va_P D vwCl (uw (cX vl) q u z1) t.heap) (tw_A (cX vl) u)) 0 0 (tw_A (cX vl) u) := by
  refine Met.ofW (cc := cX6_isOver) (maxL := 3) (ret := (some .boolean)) (by decide) rfl ?_
  intro p e s m args below meth c s₁ B hml hv
  obtain ⟨rfl, hP, hK⟩ := hv
  have hx := B.exec
  have hb := B.bytes
  have hr := B.returns
  have hts := atoms_spec (ws := wc_X6_isOver) B.pre
  have hT : ∀ w ∈ wC, w.before ([.ref (u r0), .int x1] : List Value).toArray s = true := fun w h => hts w (List.mem_cons_of_mem _ h)
  have hown : s.vm.findClass RX6 = some m.cls := findClass_of_methodNamed B.named
  have hlocks := B.notSynchronized
  have hU : uw_inj (cX vl) u (tw_A (cX vl) u) := ⟨hU0, fun h hh => ⟨h, hh, rfl⟩⟩
  have hM : uw_M D vwCl (cX vl) q (tw_A (cX vl) u) s.heap u z s.heap [] := ⟨hP, va_S.rf⟩
  have hl := lv_entry ([.ref (u r0), .int x1]) (n := 3) (Nat.le_of_ble_eq_true rfl)
  rw [lg_entry_eq]
  generalize (lg_sl ([.ref (u r0), .int x1]) ++ List.replicate (3 - (lg_sl ([.ref (u r0), .int x1])).length) Slot.unset).toArray = ls at hl ⊢
  have hl : lv_has ls 3 [(0, .ref (u r0)), (1, .int x1)] := hl
  refine ow_named (fun QQ hQQ => ?_)
  generalize ([.ref (u r0), .int x1] : List Value).toArray = args at hts hT hQQ ⊢
  have hq : cm_X6_isOver_0 vl K x1 r0 z = some (r, z1) := hq
  unfold cm_X6_isOver_0 at hq
  suffices key : ∀ (H : Heap) (locs : List Loc), uw_M D vwCl (cX vl) q (tw_A (cX vl) u) s.heap u z H locs → W p l e ({ frames := 0, cells := 0, slots := 0, locals := 0 } : Room) s m args below meth c H locs 0 0 QQ (F0 m 0 ls []) from key s.heap [] hM
  intro H locs hM
  refine lv_iload_n hx hb dcX6_isOver_0 rfl (lv_at hl 1 rfl) ?_
  refine lv_iconst (v := 1) hx hb dcX6_isOver_1 (by decide) ?_
  refine lv_ishr hx hb dcX6_isOver_2 ?_
  refine lv_istore_n (lv' := [(2, .int ((x1 : Int32) >>> ((1 : Int32) &&& 31))), (0, .ref (u r0)), (1, .int x1)]) hx hb dcX6_isOver_3 rfl hl (by decide) rfl (fun ls hl => ?_)
  refine lv_iload_n hx hb dcX6_isOver_4 rfl (lv_at hl 0 rfl) ?_
  refine lv_iconst (v := 1) hx hb dcX6_isOver_5 (by decide) ?_
  refine lv_iand hx hb dcX6_isOver_6 ?_
  refine lv_if_ne (tgt := 28) hx hb dcX6_isOver_7 (by decide) (fun hc => ?_) (fun hc => ?_)
  · have hq := tw_if hq hc
    refine lv_iconst (v := 0) hx hb dcX6_isOver_28 (by decide) ?_
    obtain ⟨hz, hq⟩ := tw_gZ hq
    exact cw_zret hx hb hr hlocks hM hz hq hQQ dcX6_isOver_29
  · have hq := tw_it hq hc
    refine lv_aload_n hx hb dcX6_isOver_10 rfl (lv_at hl 1 rfl) ?_
    refine vgX6_29 hx hb hT hown hK hM hr0 dcX6_isOver_11 ?_
    refine vgX6_116 hx hb hT hown hK hM (cs_X6_3 hr0) dcX6_isOver_14 ?_
    refine lv_iload_n hx hb dcX6_isOver_17 rfl (lv_at hl 0 rfl) ?_
    refine uw_iald cX_ok hx hb hK hM (cr_X7_0 (cs_X6_3 hr0)) hq dcX6_isOver_18 (fun v1 hq => ?_)
    refine lv_iconst (v := 1) hx hb dcX6_isOver_19 (by decide) ?_
    refine lv_iand hx hb dcX6_isOver_20 ?_
    refine lv_if_ne (tgt := 28) hx hb dcX6_isOver_21 (by decide) (fun hc => ?_) (fun hc => ?_)
    · have hq := tw_if hq hc
      refine lv_iconst (v := 0) hx hb dcX6_isOver_28 (by decide) ?_
      obtain ⟨hz, hq⟩ := tw_gZ hq
      exact cw_zret hx hb hr hlocks hM hz hq hQQ dcX6_isOver_29
    · have hq := tw_it hq hc
      refine lv_iconst (v := 1) hx hb dcX6_isOver_24 (by decide) ?_
      refine lv_goto (tgt := 29) hx hb dcX6_isOver_25 (by decide) ?_
      obtain ⟨hz, hq⟩ := tw_gZ hq
      exact cw_zret hx hb hr hlocks hM hz hq hQQ dcX6_isOver_29
theorem dcX6_isPassable_0 : decode cX6_isPassable 0 = .ok (.aload_n 0, 1) := dw_at cX6_isPassable_k0 (p := 0) rfl (by decide +kernel)
theorem dcX6_isPassable_1 : decode cX6_isPassable 1 = .ok (.getfield 29, 3) := dw_at cX6_isPassable_k0 (p := 1) rfl (by decide +kernel)
theorem dcX6_isPassable_4 : decode cX6_isPassable 4 = .ok (.iload_n 1, 1) := dw_at cX6_isPassable_k0 (p := 4) rfl (by decide +kernel)
theorem dcX6_isPassable_5 : decode cX6_isPassable 5 = .ok (.invokestatic 163, 3) := dw_at cX6_isPassable_k0 (p := 5) rfl (by decide +kernel)
theorem dcX6_isPassable_8 : decode cX6_isPassable 8 = .ok (.iconst 1, 1) := dw_at cX6_isPassable_k0 (p := 8) rfl (by decide +kernel)
theorem dcX6_isPassable_9 : decode cX6_isPassable 9 = .ok (.ishr, 1) := dw_at cX6_isPassable_k0 (p := 9) rfl (by decide +kernel)
theorem dcX6_isPassable_10 : decode cX6_isPassable 10 = .ok (.istore 4, 2) := dw_at cX6_isPassable_k0 (p := 10) rfl (by decide +kernel)
theorem dcX6_isPassable_12 : decode cX6_isPassable 12 = .ok (.aload_n 0, 1) := dw_at cX6_isPassable_k0 (p := 12) rfl (by decide +kernel)
theorem dcX6_isPassable_13 : decode cX6_isPassable 13 = .ok (.getfield 29, 3) := dw_at cX6_isPassable_k0 (p := 13) rfl (by decide +kernel)
theorem dcX6_isPassable_16 : decode cX6_isPassable 16 = .ok (.iload_n 2, 1) := dw_at cX6_isPassable_k0 (p := 16) rfl (by decide +kernel)
theorem dcX6_isPassable_17 : decode cX6_isPassable 17 = .ok (.invokestatic 163, 3) := dw_at cX6_isPassable_k0 (p := 17) rfl (by decide +kernel)
theorem dcX6_isPassable_20 : decode cX6_isPassable 20 = .ok (.iconst 1, 1) := dw_at cX6_isPassable_k0 (p := 20) rfl (by decide +kernel)
theorem dcX6_isPassable_21 : decode cX6_isPassable 21 = .ok (.ishr, 1) := dw_at cX6_isPassable_k0 (p := 21) rfl (by decide +kernel)
theorem dcX6_isPassable_22 : decode cX6_isPassable 22 = .ok (.istore 5, 2) := dw_at cX6_isPassable_k0 (p := 22) rfl (by decide +kernel)
theorem dcX6_isPassable_24 : decode cX6_isPassable 24 = .ok (.aload_n 0, 1) := dw_at cX6_isPassable_k1 (p := 0) rfl (by decide +kernel)
theorem dcX6_isPassable_25 : decode cX6_isPassable 25 = .ok (.getfield 29, 3) := dw_at cX6_isPassable_k1 (p := 1) rfl (by decide +kernel)
theorem dcX6_isPassable_28 : decode cX6_isPassable 28 = .ok (.iload_n 3, 1) := dw_at cX6_isPassable_k1 (p := 4) rfl (by decide +kernel)
theorem dcX6_isPassable_29 : decode cX6_isPassable 29 = .ok (.invokestatic 163, 3) := dw_at cX6_isPassable_k1 (p := 5) rfl (by decide +kernel)
theorem dcX6_isPassable_32 : decode cX6_isPassable 32 = .ok (.iconst 1, 1) := dw_at cX6_isPassable_k1 (p := 8) rfl (by decide +kernel)
theorem dcX6_isPassable_33 : decode cX6_isPassable 33 = .ok (.ishr, 1) := dw_at cX6_isPassable_k1 (p := 9) rfl (by decide +kernel)
theorem dcX6_isPassable_34 : decode cX6_isPassable 34 = .ok (.istore 6, 2) := dw_at cX6_isPassable_k1 (p := 10) rfl (by decide +kernel)
theorem dcX6_isPassable_36 : decode cX6_isPassable 36 = .ok (.iload 4, 2) := dw_at cX6_isPassable_k1 (p := 12) rfl (by decide +kernel)
theorem dcX6_isPassable_38 : decode cX6_isPassable 38 = .ok (.iload 5, 2) := dw_at cX6_isPassable_k1 (p := 14) rfl (by decide +kernel)
theorem dcX6_isPassable_40 : decode cX6_isPassable 40 = .ok (.if_icmp .eq 45, 3) := dw_at cX6_isPassable_k1 (p := 16) rfl (by decide +kernel)
theorem dcX6_isPassable_43 : decode cX6_isPassable 43 = .ok (.iload 5, 2) := dw_at cX6_isPassable_k1 (p := 19) rfl (by decide +kernel)
theorem dcX6_isPassable_45 : decode cX6_isPassable 45 = .ok (.iload 6, 2) := dw_at cX6_isPassable_k1 (p := 21) rfl (by decide +kernel)
theorem dcX6_isPassable_47 : decode cX6_isPassable 47 = .ok (.if_icmp .eq 38, 3) := dw_at cX6_isPassable_k1 (p := 23) rfl (by decide +kernel)
theorem dcX6_isPassable_50 : decode cX6_isPassable 50 = .ok (.iload 4, 2) := dw_at cX6_isPassable_k2 (p := 0) rfl (by decide +kernel)
theorem dcX6_isPassable_52 : decode cX6_isPassable 52 = .ok (.iload 6, 2) := dw_at cX6_isPassable_k2 (p := 2) rfl (by decide +kernel)
theorem dcX6_isPassable_54 : decode cX6_isPassable 54 = .ok (.if_icmp .eq 31, 3) := dw_at cX6_isPassable_k2 (p := 4) rfl (by decide +kernel)
theorem dcX6_isPassable_57 : decode cX6_isPassable 57 = .ok (.aload_n 0, 1) := dw_at cX6_isPassable_k2 (p := 7) rfl (by decide +kernel)
theorem dcX6_isPassable_58 : decode cX6_isPassable 58 = .ok (.iload_n 1, 1) := dw_at cX6_isPassable_k2 (p := 8) rfl (by decide +kernel)
theorem dcX6_isPassable_59 : decode cX6_isPassable 59 = .ok (.invokevirtual 166, 3) := dw_at cX6_isPassable_k2 (p := 9) rfl (by decide +kernel)
theorem dcX6_isPassable_62 : decode cX6_isPassable 62 = .ok (.ifCond .ne 19, 3) := dw_at cX6_isPassable_k2 (p := 12) rfl (by decide +kernel)
theorem dcX6_isPassable_65 : decode cX6_isPassable 65 = .ok (.aload_n 0, 1) := dw_at cX6_isPassable_k2 (p := 15) rfl (by decide +kernel)
theorem dcX6_isPassable_66 : decode cX6_isPassable 66 = .ok (.iload_n 2, 1) := dw_at cX6_isPassable_k2 (p := 16) rfl (by decide +kernel)
theorem dcX6_isPassable_67 : decode cX6_isPassable 67 = .ok (.invokevirtual 166, 3) := dw_at cX6_isPassable_k2 (p := 17) rfl (by decide +kernel)
theorem dcX6_isPassable_70 : decode cX6_isPassable 70 = .ok (.ifCond .ne 11, 3) := dw_at cX6_isPassable_k2 (p := 20) rfl (by decide +kernel)
theorem dcX6_isPassable_73 : decode cX6_isPassable 73 = .ok (.aload_n 0, 1) := dw_at cX6_isPassable_k2 (p := 23) rfl (by decide +kernel)
theorem dcX6_isPassable_74 : decode cX6_isPassable 74 = .ok (.iload_n 3, 1) := dw_at cX6_isPassable_k3 (p := 0) rfl (by decide +kernel)
theorem dcX6_isPassable_75 : decode cX6_isPassable 75 = .ok (.invokevirtual 166, 3) := dw_at cX6_isPassable_k3 (p := 1) rfl (by decide +kernel)
theorem dcX6_isPassable_78 : decode cX6_isPassable 78 = .ok (.ifCond .eq 7, 3) := dw_at cX6_isPassable_k3 (p := 4) rfl (by decide +kernel)
theorem dcX6_isPassable_81 : decode cX6_isPassable 81 = .ok (.iconst 1, 1) := dw_at cX6_isPassable_k3 (p := 7) rfl (by decide +kernel)
theorem dcX6_isPassable_82 : decode cX6_isPassable 82 = .ok (.goto 4, 3) := dw_at cX6_isPassable_k3 (p := 8) rfl (by decide +kernel)
theorem dcX6_isPassable_85 : decode cX6_isPassable 85 = .ok (.iconst 0, 1) := dw_at cX6_isPassable_k3 (p := 11) rfl (by decide +kernel)
theorem dcX6_isPassable_86 : decode cX6_isPassable 86 = .ok (.ireturn, 1) := dw_at cX6_isPassable_k3 (p := 12) rfl (by decide +kernel)
def cm_X6_isPassable_0 (vl : Nat → Nat) (K : Nat) (go : Nat → Int32 → Int32 → Int32 → Int32 → Int32 → Int32 → Nat → ow_MS → Option (Int32 × ow_MS)) (x1 : Int32) (x2 : Int32) (x3 : Int32) (x4 : Int32) (x5 : Int32) (x6 : Int32) (r0 : Nat) (z : ow_MS) : Option (Int32 × ow_MS) :=
 cs1 (ce_X4_endOf vl K (r0 + 4000) x1 z) fun v2 z1 => cs1 (ce_X4_endOf vl K (r0 + 4000) x2 z1) fun v4 z3 => cs1 (ce_X4_endOf vl K (r0 + 4000) x3 z3) fun v6 z5 => (if ((v2 : Int32) >>> ((1 : Int32) &&& 31)) = ((v4 : Int32) >>> ((1 : Int32) &&& 31)) then okZ 0 (some (0, z5))
 else (if ((v4 : Int32) >>> ((1 : Int32) &&& 31)) = ((v6 : Int32) >>> ((1 : Int32) &&& 31)) then okZ 0 (some (0, z5))
 else (if ((v2 : Int32) >>> ((1 : Int32) &&& 31)) = ((v6 : Int32) >>> ((1 : Int32) &&& 31)) then okZ 0 (some (0, z5))
 else cs1 (ce_X6_isOver vl K r0 x1 z5) fun v8 z7 => (if v8 = 0 then cs1 (ce_X6_isOver vl K r0 x2 z7) fun v10 z9 => (if v10 = 0 then cs1 (ce_X6_isOver vl K r0 x3 z9) fun v12 z11 => (if v12 = 0 then okZ 0 (some (0, z11))
 else go 1 x1 x2 x3 ((v2 : Int32) >>> ((1 : Int32) &&& 31)) ((v4 : Int32) >>> ((1 : Int32) &&& 31)) ((v6 : Int32) >>> ((1 : Int32) &&& 31)) r0 z11)
 else go 1 x1 x2 x3 ((v2 : Int32) >>> ((1 : Int32) &&& 31)) ((v4 : Int32) >>> ((1 : Int32) &&& 31)) ((v6 : Int32) >>> ((1 : Int32) &&& 31)) r0 z9)
 else go 1 x1 x2 x3 ((v2 : Int32) >>> ((1 : Int32) &&& 31)) ((v4 : Int32) >>> ((1 : Int32) &&& 31)) ((v6 : Int32) >>> ((1 : Int32) &&& 31)) r0 z7))))
def cm_X6_isPassable_1 (vl : Nat → Nat) (K : Nat) (go : Nat → Int32 → Int32 → Int32 → Int32 → Int32 → Int32 → Nat → ow_MS → Option (Int32 × ow_MS)) (x1 : Int32) (x2 : Int32) (x3 : Int32) (x4 : Int32) (x5 : Int32) (x6 : Int32) (r0 : Nat) (z : ow_MS) : Option (Int32 × ow_MS) :=
 okZ 1 (some (1, z))
def cb_X6_isPassable (vl : Nat → Nat) (K : Nat) (go : Nat → Int32 → Int32 → Int32 → Int32 → Int32 → Int32 → Nat → ow_MS → Option (Int32 × ow_MS)) (L : Nat) (x1 : Int32) (x2 : Int32) (x3 : Int32) (x4 : Int32) (x5 : Int32) (x6 : Int32) (r0 : Nat) (z : ow_MS) : Option (Int32 × ow_MS) := match L with
  | 0 => cm_X6_isPassable_0 vl K go x1 x2 x3 x4 x5 x6 r0 z
  | 1 => cm_X6_isPassable_1 vl K go x1 x2 x3 x4 x5 x6 r0 z
  | _ => none
def c_X6_isPassable (vl : Nat → Nat) (K : Nat) : Nat → Nat → Int32 → Int32 → Int32 → Int32 → Int32 → Int32 → Nat → ow_MS → Option (Int32 × ow_MS)
  | 0 => fun _ _ _ _ _ _ _ _ _ => none
  | k + 1 => cb_X6_isPassable vl K (c_X6_isPassable vl K k)
def ce_X6_isPassable (vl : Nat → Nat) (K : Nat) (r0 : Nat) (x1 : Int32) (x2 : Int32) (x3 : Int32) (z : ow_MS) : Option (Int32 × ow_MS) := c_X6_isPassable vl K K 0 x1 x2 x3 0 0 0 r0 z
abbrev wc_X6_isPassable : List Cond := .code yX6_isPassable cX6_isPassable 7 (some .boolean) :: wC
theorem cdd_X6_isPassable : yX6_isPassable.cls = RX6 ∧ yX6_isPassable.cls ≠ "java/lang/invoke/MethodHandle" ∧ yX6_isPassable.cls ≠ "java/lang/invoke/VarHandle" ∧ (parseMethodDescriptor yX6_isPassable.desc).map (fun d => d.parameters.length) = some 3 := by decide +kernel
set_option maxHeartbeats 4000000 in
set_option maxRecDepth 100000 in
theorem kc_X6_isPassable (l : Launch) (D : va_G) (q : Nat → ClassId) (vl u : Nat → Nat) (hU0 : tw_inj (cX vl) u) (K : Nat) (r0 : Nat) (x1 : Int32) (x2 : Int32) (x3 : Int32) (hr0 : cw_X6 r0) (z z1 : ow_MS) (r : Int32) (hq : ce_X6_isPassable vl K r0 x1 x2 x3 z = some (r, z1)) : Met l yX6_isPassable wc_X6_isPassable ({ frames := 1, cells := 0, slots := 0, locals := 22 } : Room) (va_Pc [.ref (u r0), .int x1, .int x2, .int x3] (cw_pre D q vl u z)) (va_Qi (fun x (_ : Unit) => x = r) (fun _ t => va_P D vwCl (uw (cX vl) q u z1) t.heap) (tw_A (cX vl) u)) 0 0 (tw_A (cX vl) u) := by
  refine Met.ofW (cc := cX6_isPassable) (maxL := 7) (ret := (some .boolean)) (by decide) rfl ?_
  intro p e s m args below meth c s₁ B hml hv
  obtain ⟨rfl, hP, hK⟩ := hv
  have hx := B.exec
  have hb := B.bytes
  have hr := B.returns
  have hts := atoms_spec (ws := wc_X6_isPassable) B.pre
  have hT : ∀ w ∈ wC, w.before ([.ref (u r0), .int x1, .int x2, .int x3] : List Value).toArray s = true := fun w h => hts w (List.mem_cons_of_mem _ h)
  have hown : s.vm.findClass RX6 = some m.cls := findClass_of_methodNamed B.named
  have hlocks := B.notSynchronized
  have hU : uw_inj (cX vl) u (tw_A (cX vl) u) := ⟨hU0, fun h hh => ⟨h, hh, rfl⟩⟩
  have hM : uw_M D vwCl (cX vl) q (tw_A (cX vl) u) s.heap u z s.heap [] := ⟨hP, va_S.rf⟩
  have hl := lv_entry ([.ref (u r0), .int x1, .int x2, .int x3]) (n := 7) (Nat.le_of_ble_eq_true rfl)
  rw [lg_entry_eq]
  generalize (lg_sl ([.ref (u r0), .int x1, .int x2, .int x3]) ++ List.replicate (7 - (lg_sl ([.ref (u r0), .int x1, .int x2, .int x3])).length) Slot.unset).toArray = ls at hl ⊢
  have hl : lv_has ls 7 [(0, .ref (u r0)), (1, .int x1), (2, .int x2), (3, .int x3)] := hl
  refine ow_named (fun QQ hQQ => ?_)
  generalize ([.ref (u r0), .int x1, .int x2, .int x3] : List Value).toArray = args at hts hT hQQ ⊢
  have key : ∀ k : Nat, (∀ (x1 : Int32) (x2 : Int32) (x3 : Int32) (x4 : Int32) (x5 : Int32) (x6 : Int32) (r0 : Nat) (z : ow_MS) (H : Heap) (locs : List Loc) (ls : Array Slot), cw_X6 r0 → uw_M D vwCl (cX vl) q (tw_A (cX vl) u) s.heap u z H locs → lv_has ls 7 [(0, .ref (u r0)), (1, .int x1), (2, .int x2), (3, .int x3)] → c_X6_isPassable vl K k 0 x1 x2 x3 x4 x5 x6 r0 z = some (r, z1) → W p l e ({ frames := 1, cells := 0, slots := 0, locals := 22 } : Room) s m args below meth c H locs 0 0 QQ (F0 m 0 ls [])) ∧ (∀ (x1 : Int32) (x2 : Int32) (x3 : Int32) (x4 : Int32) (x5 : Int32) (x6 : Int32) (r0 : Nat) (z : ow_MS) (H : Heap) (locs : List Loc) (ls : Array Slot), cw_X6 r0 → uw_M D vwCl (cX vl) q (tw_A (cX vl) u) s.heap u z H locs → lv_has ls 7 [(0, .ref (u r0)), (1, .int x1), (2, .int x2), (3, .int x3), (4, .int x4), (5, .int x5), (6, .int x6)] → c_X6_isPassable vl K k 1 x1 x2 x3 x4 x5 x6 r0 z = some (r, z1) → W p l e ({ frames := 1, cells := 0, slots := 0, locals := 22 } : Room) s m args below meth c H locs 0 0 QQ (F0 m 81 ls [])) := by
    intro k
    induction k with
    | zero => exact ⟨fun _ _ _ _ _ _ _ _ _ _ _ _ _ _ hq => cw_no hq, fun _ _ _ _ _ _ _ _ _ _ _ _ _ _ hq => cw_no hq⟩
    | succ k ih =>
      obtain ⟨ih_0, ih_1⟩ := ih
      refine ⟨?_, ?_⟩
      · intro x1 x2 x3 x4 x5 x6 r0 z H locs ls hr0 hM hl hq
        have hq : cm_X6_isPassable_0 vl K (c_X6_isPassable vl K k) x1 x2 x3 x4 x5 x6 r0 z = some (r, z1) := hq
        unfold cm_X6_isPassable_0 at hq
        refine lv_aload_n hx hb dcX6_isPassable_0 rfl (lv_at hl 0 rfl) ?_
        refine vgX6_29 hx hb hT hown hK hM hr0 dcX6_isPassable_1 ?_
        refine lv_iload_n hx hb dcX6_isPassable_4 rfl (lv_at hl 1 rfl) ?_
        obtain ⟨v2, z1, hcq, hq⟩ := tw_cl1 hq
        refine uw_cali hU hM (va_runS (As := [.ref (u (r0 + 4000)), .int x1]) (rest := []) ⟨hx, hb, hml, hown, hts⟩ (kc_X4_endOf l D q vl u hU.1 K (r0 + 4000) x1 (cs_X6_3 hr0) z z1 v2 hcq) (va_cwS 2 hts (tw_gS wC_good xq_540 xq_541 xq_350 xq_340) rfl rfl rfl cdd_X4_endOf ⟨(Nat.le_of_ble_eq_true rfl), (Nat.le_of_ble_eq_true rfl)⟩) (cw_preS hK hM) rfl rfl hl.1 rfl (lv_room (Nat.le_of_ble_eq_true rfl)) dcX6_isPassable_5 ⟨(Nat.le_of_ble_eq_true rfl), (Nat.le_of_ble_eq_true rfl)⟩) (fun H locs hM => ?_)
        refine lv_iconst (v := 1) hx hb dcX6_isPassable_8 (by decide) ?_
        refine lv_ishr hx hb dcX6_isPassable_9 ?_
        refine lv_istore (lv' := [(4, .int ((v2 : Int32) >>> ((1 : Int32) &&& 31))), (0, .ref (u r0)), (1, .int x1), (2, .int x2), (3, .int x3)]) hx hb dcX6_isPassable_10 hl (by decide) rfl (fun ls hl => ?_)
        refine lv_aload_n hx hb dcX6_isPassable_12 rfl (lv_at hl 1 rfl) ?_
        refine vgX6_29 hx hb hT hown hK hM hr0 dcX6_isPassable_13 ?_
        refine lv_iload_n hx hb dcX6_isPassable_16 rfl (lv_at hl 3 rfl) ?_
        obtain ⟨v4, z3, hcq, hq⟩ := tw_cl1 hq
        refine uw_cali hU hM (va_runS (As := [.ref (u (r0 + 4000)), .int x2]) (rest := []) ⟨hx, hb, hml, hown, hts⟩ (kc_X4_endOf l D q vl u hU.1 K (r0 + 4000) x2 (cs_X6_3 hr0) z1 z3 v4 hcq) (va_cwS 2 hts (tw_gS wC_good xq_540 xq_541 xq_350 xq_340) rfl rfl rfl cdd_X4_endOf ⟨(Nat.le_of_ble_eq_true rfl), (Nat.le_of_ble_eq_true rfl)⟩) (cw_preS hK hM) rfl rfl hl.1 rfl (lv_room (Nat.le_of_ble_eq_true rfl)) dcX6_isPassable_17 ⟨(Nat.le_of_ble_eq_true rfl), (Nat.le_of_ble_eq_true rfl)⟩) (fun H locs hM => ?_)
        refine lv_iconst (v := 1) hx hb dcX6_isPassable_20 (by decide) ?_
        refine lv_ishr hx hb dcX6_isPassable_21 ?_
        refine lv_istore (lv' := [(5, .int ((v4 : Int32) >>> ((1 : Int32) &&& 31))), (4, .int ((v2 : Int32) >>> ((1 : Int32) &&& 31))), (0, .ref (u r0)), (1, .int x1), (2, .int x2), (3, .int x3)]) hx hb dcX6_isPassable_22 hl (by decide) rfl (fun ls hl => ?_)
        refine lv_aload_n hx hb dcX6_isPassable_24 rfl (lv_at hl 2 rfl) ?_
        refine vgX6_29 hx hb hT hown hK hM hr0 dcX6_isPassable_25 ?_
        refine lv_iload_n hx hb dcX6_isPassable_28 rfl (lv_at hl 5 rfl) ?_
        obtain ⟨v6, z5, hcq, hq⟩ := tw_cl1 hq
        refine uw_cali hU hM (va_runS (As := [.ref (u (r0 + 4000)), .int x3]) (rest := []) ⟨hx, hb, hml, hown, hts⟩ (kc_X4_endOf l D q vl u hU.1 K (r0 + 4000) x3 (cs_X6_3 hr0) z3 z5 v6 hcq) (va_cwS 2 hts (tw_gS wC_good xq_540 xq_541 xq_350 xq_340) rfl rfl rfl cdd_X4_endOf ⟨(Nat.le_of_ble_eq_true rfl), (Nat.le_of_ble_eq_true rfl)⟩) (cw_preS hK hM) rfl rfl hl.1 rfl (lv_room (Nat.le_of_ble_eq_true rfl)) dcX6_isPassable_29 ⟨(Nat.le_of_ble_eq_true rfl), (Nat.le_of_ble_eq_true rfl)⟩) (fun H locs hM => ?_)
        refine lv_iconst (v := 1) hx hb dcX6_isPassable_32 (by decide) ?_
        refine lv_ishr hx hb dcX6_isPassable_33 ?_
        refine lv_istore (lv' := [(6, .int ((v6 : Int32) >>> ((1 : Int32) &&& 31))), (5, .int ((v4 : Int32) >>> ((1 : Int32) &&& 31))), (4, .int ((v2 : Int32) >>> ((1 : Int32) &&& 31))), (0, .ref (u r0)), (1, .int x1), (2, .int x2), (3, .int x3)]) hx hb dcX6_isPassable_34 hl (by decide) rfl (fun ls hl => ?_)
        refine lv_iload hx hb dcX6_isPassable_36 (lv_at hl 2 rfl) ?_
        refine lv_iload hx hb dcX6_isPassable_38 (lv_at hl 1 rfl) ?_
        refine lv_icmp_eq (tgt := 85) hx hb dcX6_isPassable_40 (by decide) (fun hc => ?_) (fun hc => ?_)
        · have hq := tw_it hq hc
          refine lv_iconst (v := 0) hx hb dcX6_isPassable_85 (by decide) ?_
          obtain ⟨hz, hq⟩ := tw_gZ hq
          exact cw_zret hx hb hr hlocks hM hz hq hQQ dcX6_isPassable_86
        · have hq := tw_if hq hc
          refine lv_iload hx hb dcX6_isPassable_43 (lv_at hl 1 rfl) ?_
          refine lv_iload hx hb dcX6_isPassable_45 (lv_at hl 0 rfl) ?_
          refine lv_icmp_eq (tgt := 85) hx hb dcX6_isPassable_47 (by decide) (fun hc => ?_) (fun hc => ?_)
          · have hq := tw_it hq hc
            refine lv_iconst (v := 0) hx hb dcX6_isPassable_85 (by decide) ?_
            obtain ⟨hz, hq⟩ := tw_gZ hq
            exact cw_zret hx hb hr hlocks hM hz hq hQQ dcX6_isPassable_86
          · have hq := tw_if hq hc
            refine lv_iload hx hb dcX6_isPassable_50 (lv_at hl 2 rfl) ?_
            refine lv_iload hx hb dcX6_isPassable_52 (lv_at hl 0 rfl) ?_
            refine lv_icmp_eq (tgt := 85) hx hb dcX6_isPassable_54 (by decide) (fun hc => ?_) (fun hc => ?_)
            · have hq := tw_it hq hc
              refine lv_iconst (v := 0) hx hb dcX6_isPassable_85 (by decide) ?_
              obtain ⟨hz, hq⟩ := tw_gZ hq
              exact cw_zret hx hb hr hlocks hM hz hq hQQ dcX6_isPassable_86
            · have hq := tw_if hq hc
              refine lv_aload_n hx hb dcX6_isPassable_57 rfl (lv_at hl 3 rfl) ?_
              refine lv_iload_n hx hb dcX6_isPassable_58 rfl (lv_at hl 4 rfl) ?_
              obtain ⟨v8, z7, hcq, hq⟩ := tw_cl1 hq
              refine uw_cali hU hM (va_runV (As := [.int x1]) (rest := []) ⟨hx, hb, hml, hown, hts⟩ (kc_X6_isOver l D q vl u hU.1 K r0 x1 hr0 z5 z7 v8 hcq) (cwV 1 hts (tw_gV wC_good xq_542 xq_543 xq_544 xq_146 xq_545) rfl rfl rfl cdd_X6_isOver ⟨(Nat.le_of_ble_eq_true rfl), (Nat.le_of_ble_eq_true rfl)⟩) (cw_preV hK hM (co_X6 hr0) rfl) rfl rfl hl.1 rfl (lv_room (Nat.le_of_ble_eq_true rfl)) dcX6_isPassable_59 ⟨(Nat.le_of_ble_eq_true rfl), (Nat.le_of_ble_eq_true rfl)⟩) (fun H locs hM => ?_)
              refine lv_if_ne (tgt := 81) hx hb dcX6_isPassable_62 (by decide) (fun hc => ?_) (fun hc => ?_)
              · have hq := tw_if hq hc
                exact ih_1 x1 x2 x3 ((v2 : Int32) >>> ((1 : Int32) &&& 31)) ((v4 : Int32) >>> ((1 : Int32) &&& 31)) ((v6 : Int32) >>> ((1 : Int32) &&& 31)) r0 z7 H locs ls hr0 hM (lv_sub hl [3, 4, 5, 6, 2, 1, 0] rfl) hq
              · have hq := tw_it hq hc
                refine lv_aload_n hx hb dcX6_isPassable_65 rfl (lv_at hl 3 rfl) ?_
                refine lv_iload_n hx hb dcX6_isPassable_66 rfl (lv_at hl 5 rfl) ?_
                obtain ⟨v10, z9, hcq, hq⟩ := tw_cl1 hq
                refine uw_cali hU hM (va_runV (As := [.int x2]) (rest := []) ⟨hx, hb, hml, hown, hts⟩ (kc_X6_isOver l D q vl u hU.1 K r0 x2 hr0 z7 z9 v10 hcq) (cwV 1 hts (tw_gV wC_good xq_542 xq_543 xq_544 xq_146 xq_545) rfl rfl rfl cdd_X6_isOver ⟨(Nat.le_of_ble_eq_true rfl), (Nat.le_of_ble_eq_true rfl)⟩) (cw_preV hK hM (co_X6 hr0) rfl) rfl rfl hl.1 rfl (lv_room (Nat.le_of_ble_eq_true rfl)) dcX6_isPassable_67 ⟨(Nat.le_of_ble_eq_true rfl), (Nat.le_of_ble_eq_true rfl)⟩) (fun H locs hM => ?_)
                refine lv_if_ne (tgt := 81) hx hb dcX6_isPassable_70 (by decide) (fun hc => ?_) (fun hc => ?_)
                · have hq := tw_if hq hc
                  exact ih_1 x1 x2 x3 ((v2 : Int32) >>> ((1 : Int32) &&& 31)) ((v4 : Int32) >>> ((1 : Int32) &&& 31)) ((v6 : Int32) >>> ((1 : Int32) &&& 31)) r0 z9 H locs ls hr0 hM (lv_sub hl [3, 4, 5, 6, 2, 1, 0] rfl) hq
                · have hq := tw_it hq hc
                  refine lv_aload_n hx hb dcX6_isPassable_73 rfl (lv_at hl 3 rfl) ?_
                  refine lv_iload_n hx hb dcX6_isPassable_74 rfl (lv_at hl 6 rfl) ?_
                  obtain ⟨v12, z11, hcq, hq⟩ := tw_cl1 hq
                  refine uw_cali hU hM (va_runV (As := [.int x3]) (rest := []) ⟨hx, hb, hml, hown, hts⟩ (kc_X6_isOver l D q vl u hU.1 K r0 x3 hr0 z9 z11 v12 hcq) (cwV 1 hts (tw_gV wC_good xq_542 xq_543 xq_544 xq_146 xq_545) rfl rfl rfl cdd_X6_isOver ⟨(Nat.le_of_ble_eq_true rfl), (Nat.le_of_ble_eq_true rfl)⟩) (cw_preV hK hM (co_X6 hr0) rfl) rfl rfl hl.1 rfl (lv_room (Nat.le_of_ble_eq_true rfl)) dcX6_isPassable_75 ⟨(Nat.le_of_ble_eq_true rfl), (Nat.le_of_ble_eq_true rfl)⟩) (fun H locs hM => ?_)
                  refine lv_if_eq (tgt := 85) hx hb dcX6_isPassable_78 (by decide) (fun hc => ?_) (fun hc => ?_)
                  · have hq := tw_it hq hc
                    refine lv_iconst (v := 0) hx hb dcX6_isPassable_85 (by decide) ?_
                    obtain ⟨hz, hq⟩ := tw_gZ hq
                    exact cw_zret hx hb hr hlocks hM hz hq hQQ dcX6_isPassable_86
                  · have hq := tw_if hq hc
                    exact ih_1 x1 x2 x3 ((v2 : Int32) >>> ((1 : Int32) &&& 31)) ((v4 : Int32) >>> ((1 : Int32) &&& 31)) ((v6 : Int32) >>> ((1 : Int32) &&& 31)) r0 z11 H locs ls hr0 hM (lv_sub hl [3, 4, 5, 6, 2, 1, 0] rfl) hq
      · intro x1 x2 x3 x4 x5 x6 r0 z H locs ls hr0 hM hl hq
        have hq : cm_X6_isPassable_1 vl K (c_X6_isPassable vl K k) x1 x2 x3 x4 x5 x6 r0 z = some (r, z1) := hq
        unfold cm_X6_isPassable_1 at hq
        refine lv_iconst (v := 1) hx hb dcX6_isPassable_81 (by decide) ?_
        refine lv_goto (tgt := 86) hx hb dcX6_isPassable_82 (by decide) ?_
        obtain ⟨hz, hq⟩ := tw_gZ hq
        exact cw_zret hx hb hr hlocks hM hz hq hQQ dcX6_isPassable_86
  exact (key K).1 x1 x2 x3 0 0 0 r0 z s.heap [] ls hr0 hM (lv_sub hl [0, 1, 2, 3] rfl) hq
theorem dcX7_swapped_0 : decode cX7_swapped 0 = .ok (.iload_n 0, 1) := by decide +kernel
theorem dcX7_swapped_1 : decode cX7_swapped 1 = .ok (.iload_n 1, 1) := by decide +kernel
theorem dcX7_swapped_2 : decode cX7_swapped 2 = .ok (.if_icmp .ne 7, 3) := by decide +kernel
theorem dcX7_swapped_5 : decode cX7_swapped 5 = .ok (.iload_n 2, 1) := by decide +kernel
theorem dcX7_swapped_6 : decode cX7_swapped 6 = .ok (.goto 13, 3) := by decide +kernel
theorem dcX7_swapped_9 : decode cX7_swapped 9 = .ok (.iload_n 0, 1) := by decide +kernel
theorem dcX7_swapped_10 : decode cX7_swapped 10 = .ok (.iload_n 2, 1) := by decide +kernel
theorem dcX7_swapped_11 : decode cX7_swapped 11 = .ok (.if_icmp .ne 7, 3) := by decide +kernel
theorem dcX7_swapped_14 : decode cX7_swapped 14 = .ok (.iload_n 1, 1) := by decide +kernel
theorem dcX7_swapped_15 : decode cX7_swapped 15 = .ok (.goto 4, 3) := by decide +kernel
theorem dcX7_swapped_18 : decode cX7_swapped 18 = .ok (.iload_n 0, 1) := by decide +kernel
theorem dcX7_swapped_19 : decode cX7_swapped 19 = .ok (.ireturn, 1) := by decide +kernel
def cm_X7_swapped_0 (vl : Nat → Nat) (K : Nat) (x0 : Int32) (x1 : Int32) (x2 : Int32) (z : ow_MS) : Option (Int32 × ow_MS) :=
 (if x0 = x1 then some (x2, z)
 else (if x0 = x2 then some (x1, z)
 else some (x0, z)))
def ce_X7_swapped (vl : Nat → Nat) (K : Nat) (x0 : Int32) (x1 : Int32) (x2 : Int32) (z : ow_MS) : Option (Int32 × ow_MS) := cm_X7_swapped_0 vl K x0 x1 x2 z
abbrev wc_X7_swapped : List Cond := .code yX7_swapped cX7_swapped 3 (some .int) :: wC
theorem cdd_X7_swapped : yX7_swapped.cls ≠ "java/lang/invoke/MethodHandle" ∧ yX7_swapped.cls ≠ "java/lang/invoke/VarHandle" ∧ (parseMethodDescriptor yX7_swapped.desc).map (fun d => d.parameters.length) = some 3 := by decide +kernel
set_option maxHeartbeats 4000000 in
set_option maxRecDepth 100000 in
theorem kc_X7_swapped (l : Launch) (D : va_G) (q : Nat → ClassId) (vl u : Nat → Nat) (hU0 : tw_inj (cX vl) u) (K : Nat) (x0 : Int32) (x1 : Int32) (x2 : Int32)  (z z1 : ow_MS) (r : Int32) (hq : ce_X7_swapped vl K x0 x1 x2 z = some (r, z1)) : Met l yX7_swapped wc_X7_swapped ({ frames := 0, cells := 0, slots := 0, locals := 0 } : Room) (va_Pc [.int x0, .int x1, .int x2] (cw_pre D q vl u z)) (va_Qi (fun x (_ : Unit) => x = r) (fun _ t => va_P D vwCl (uw (cX vl) q u z1) t.heap) (tw_A (cX vl) u)) 0 0 (tw_A (cX vl) u) := by
  refine Met.ofW (cc := cX7_swapped) (maxL := 3) (ret := (some .int)) (by decide) rfl ?_
  intro p e s m args below meth c s₁ B hml hv
  obtain ⟨rfl, hP, hK⟩ := hv
  have hx := B.exec
  have hb := B.bytes
  have hr := B.returns
  have hts := atoms_spec (ws := wc_X7_swapped) B.pre
  have hT : ∀ w ∈ wC, w.before ([.int x0, .int x1, .int x2] : List Value).toArray s = true := fun w h => hts w (List.mem_cons_of_mem _ h)
  have hown : s.vm.findClass RX7 = some m.cls := findClass_of_methodNamed B.named
  have hlocks := B.notSynchronized
  have hU : uw_inj (cX vl) u (tw_A (cX vl) u) := ⟨hU0, fun h hh => ⟨h, hh, rfl⟩⟩
  have hM : uw_M D vwCl (cX vl) q (tw_A (cX vl) u) s.heap u z s.heap [] := ⟨hP, va_S.rf⟩
  have hl := lv_entry ([.int x0, .int x1, .int x2]) (n := 3) (Nat.le_of_ble_eq_true rfl)
  rw [lg_entry_eq]
  generalize (lg_sl ([.int x0, .int x1, .int x2]) ++ List.replicate (3 - (lg_sl ([.int x0, .int x1, .int x2])).length) Slot.unset).toArray = ls at hl ⊢
  have hl : lv_has ls 3 [(0, .int x0), (1, .int x1), (2, .int x2)] := hl
  refine ow_named (fun QQ hQQ => ?_)
  generalize ([.int x0, .int x1, .int x2] : List Value).toArray = args at hts hT hQQ ⊢
  have hq : cm_X7_swapped_0 vl K x0 x1 x2 z = some (r, z1) := hq
  unfold cm_X7_swapped_0 at hq
  suffices key : ∀ (H : Heap) (locs : List Loc), uw_M D vwCl (cX vl) q (tw_A (cX vl) u) s.heap u z H locs → W p l e ({ frames := 0, cells := 0, slots := 0, locals := 0 } : Room) s m args below meth c H locs 0 0 QQ (F0 m 0 ls []) from key s.heap [] hM
  intro H locs hM
  refine lv_iload_n hx hb dcX7_swapped_0 rfl (lv_at hl 0 rfl) ?_
  refine lv_iload_n hx hb dcX7_swapped_1 rfl (lv_at hl 1 rfl) ?_
  refine lv_icmp_ne (tgt := 9) hx hb dcX7_swapped_2 (by decide) (fun hc => ?_) (fun hc => ?_)
  · have hq := tw_if hq hc
    refine lv_iload_n hx hb dcX7_swapped_9 rfl (lv_at hl 0 rfl) ?_
    refine lv_iload_n hx hb dcX7_swapped_10 rfl (lv_at hl 2 rfl) ?_
    refine lv_icmp_ne (tgt := 18) hx hb dcX7_swapped_11 (by decide) (fun hc => ?_) (fun hc => ?_)
    · have hq := tw_if hq hc
      refine lv_iload_n hx hb dcX7_swapped_18 rfl (lv_at hl 0 rfl) ?_
      exact cw_iret hx hb hr hlocks hM hq hQQ dcX7_swapped_19
    · have hq := tw_it hq hc
      refine lv_iload_n hx hb dcX7_swapped_14 rfl (lv_at hl 1 rfl) ?_
      refine lv_goto (tgt := 19) hx hb dcX7_swapped_15 (by decide) ?_
      exact cw_iret hx hb hr hlocks hM hq hQQ dcX7_swapped_19
  · have hq := tw_it hq hc
    refine lv_iload_n hx hb dcX7_swapped_5 rfl (lv_at hl 2 rfl) ?_
    refine lv_goto (tgt := 19) hx hb dcX7_swapped_6 (by decide) ?_
    exact cw_iret hx hb hr hlocks hM hq hQQ dcX7_swapped_19
theorem dcX7_swapPlaces_0 : decode cX7_swapPlaces 0 = .ok (.aload_n 0, 1) := dw_at cX7_swapPlaces_k0 (p := 0) rfl (by decide +kernel)
theorem dcX7_swapPlaces_1 : decode cX7_swapPlaces 1 = .ok (.getfield 15, 3) := dw_at cX7_swapPlaces_k0 (p := 1) rfl (by decide +kernel)
theorem dcX7_swapPlaces_4 : decode cX7_swapPlaces 4 = .ok (.iload_n 1, 1) := dw_at cX7_swapPlaces_k0 (p := 4) rfl (by decide +kernel)
theorem dcX7_swapPlaces_5 : decode cX7_swapPlaces 5 = .ok (.iaload, 1) := dw_at cX7_swapPlaces_k0 (p := 5) rfl (by decide +kernel)
theorem dcX7_swapPlaces_6 : decode cX7_swapPlaces 6 = .ok (.iload_n 1, 1) := dw_at cX7_swapPlaces_k0 (p := 6) rfl (by decide +kernel)
theorem dcX7_swapPlaces_7 : decode cX7_swapPlaces 7 = .ok (.iload_n 2, 1) := dw_at cX7_swapPlaces_k0 (p := 7) rfl (by decide +kernel)
theorem dcX7_swapPlaces_8 : decode cX7_swapPlaces 8 = .ok (.invokestatic 77, 3) := dw_at cX7_swapPlaces_k0 (p := 8) rfl (by decide +kernel)
theorem dcX7_swapPlaces_11 : decode cX7_swapPlaces 11 = .ok (.istore_n 3, 1) := dw_at cX7_swapPlaces_k0 (p := 11) rfl (by decide +kernel)
theorem dcX7_swapPlaces_12 : decode cX7_swapPlaces 12 = .ok (.aload_n 0, 1) := dw_at cX7_swapPlaces_k0 (p := 12) rfl (by decide +kernel)
theorem dcX7_swapPlaces_13 : decode cX7_swapPlaces 13 = .ok (.getfield 9, 3) := dw_at cX7_swapPlaces_k0 (p := 13) rfl (by decide +kernel)
theorem dcX7_swapPlaces_16 : decode cX7_swapPlaces 16 = .ok (.iload_n 1, 1) := dw_at cX7_swapPlaces_k0 (p := 16) rfl (by decide +kernel)
theorem dcX7_swapPlaces_17 : decode cX7_swapPlaces 17 = .ok (.iaload, 1) := dw_at cX7_swapPlaces_k0 (p := 17) rfl (by decide +kernel)
theorem dcX7_swapPlaces_18 : decode cX7_swapPlaces 18 = .ok (.iload_n 1, 1) := dw_at cX7_swapPlaces_k0 (p := 18) rfl (by decide +kernel)
theorem dcX7_swapPlaces_19 : decode cX7_swapPlaces 19 = .ok (.iload_n 2, 1) := dw_at cX7_swapPlaces_k0 (p := 19) rfl (by decide +kernel)
theorem dcX7_swapPlaces_20 : decode cX7_swapPlaces 20 = .ok (.invokestatic 77, 3) := dw_at cX7_swapPlaces_k0 (p := 20) rfl (by decide +kernel)
theorem dcX7_swapPlaces_23 : decode cX7_swapPlaces 23 = .ok (.istore 4, 2) := dw_at cX7_swapPlaces_k0 (p := 23) rfl (by decide +kernel)
theorem dcX7_swapPlaces_25 : decode cX7_swapPlaces 25 = .ok (.aload_n 0, 1) := dw_at cX7_swapPlaces_k1 (p := 0) rfl (by decide +kernel)
theorem dcX7_swapPlaces_26 : decode cX7_swapPlaces 26 = .ok (.getfield 15, 3) := dw_at cX7_swapPlaces_k1 (p := 1) rfl (by decide +kernel)
theorem dcX7_swapPlaces_29 : decode cX7_swapPlaces 29 = .ok (.iload_n 2, 1) := dw_at cX7_swapPlaces_k1 (p := 4) rfl (by decide +kernel)
theorem dcX7_swapPlaces_30 : decode cX7_swapPlaces 30 = .ok (.iaload, 1) := dw_at cX7_swapPlaces_k1 (p := 5) rfl (by decide +kernel)
theorem dcX7_swapPlaces_31 : decode cX7_swapPlaces 31 = .ok (.iload_n 1, 1) := dw_at cX7_swapPlaces_k1 (p := 6) rfl (by decide +kernel)
theorem dcX7_swapPlaces_32 : decode cX7_swapPlaces 32 = .ok (.iload_n 2, 1) := dw_at cX7_swapPlaces_k1 (p := 7) rfl (by decide +kernel)
theorem dcX7_swapPlaces_33 : decode cX7_swapPlaces 33 = .ok (.invokestatic 77, 3) := dw_at cX7_swapPlaces_k1 (p := 8) rfl (by decide +kernel)
theorem dcX7_swapPlaces_36 : decode cX7_swapPlaces 36 = .ok (.istore 5, 2) := dw_at cX7_swapPlaces_k1 (p := 11) rfl (by decide +kernel)
theorem dcX7_swapPlaces_38 : decode cX7_swapPlaces 38 = .ok (.aload_n 0, 1) := dw_at cX7_swapPlaces_k1 (p := 13) rfl (by decide +kernel)
theorem dcX7_swapPlaces_39 : decode cX7_swapPlaces 39 = .ok (.getfield 9, 3) := dw_at cX7_swapPlaces_k1 (p := 14) rfl (by decide +kernel)
theorem dcX7_swapPlaces_42 : decode cX7_swapPlaces 42 = .ok (.iload_n 2, 1) := dw_at cX7_swapPlaces_k1 (p := 17) rfl (by decide +kernel)
theorem dcX7_swapPlaces_43 : decode cX7_swapPlaces 43 = .ok (.iaload, 1) := dw_at cX7_swapPlaces_k1 (p := 18) rfl (by decide +kernel)
theorem dcX7_swapPlaces_44 : decode cX7_swapPlaces 44 = .ok (.iload_n 1, 1) := dw_at cX7_swapPlaces_k1 (p := 19) rfl (by decide +kernel)
theorem dcX7_swapPlaces_45 : decode cX7_swapPlaces 45 = .ok (.iload_n 2, 1) := dw_at cX7_swapPlaces_k1 (p := 20) rfl (by decide +kernel)
theorem dcX7_swapPlaces_46 : decode cX7_swapPlaces 46 = .ok (.invokestatic 77, 3) := dw_at cX7_swapPlaces_k1 (p := 21) rfl (by decide +kernel)
theorem dcX7_swapPlaces_49 : decode cX7_swapPlaces 49 = .ok (.istore 6, 2) := dw_at cX7_swapPlaces_k2 (p := 0) rfl (by decide +kernel)
theorem dcX7_swapPlaces_51 : decode cX7_swapPlaces 51 = .ok (.aload_n 0, 1) := dw_at cX7_swapPlaces_k2 (p := 2) rfl (by decide +kernel)
theorem dcX7_swapPlaces_52 : decode cX7_swapPlaces 52 = .ok (.iload_n 3, 1) := dw_at cX7_swapPlaces_k2 (p := 3) rfl (by decide +kernel)
theorem dcX7_swapPlaces_53 : decode cX7_swapPlaces 53 = .ok (.iload_n 2, 1) := dw_at cX7_swapPlaces_k2 (p := 4) rfl (by decide +kernel)
theorem dcX7_swapPlaces_54 : decode cX7_swapPlaces 54 = .ok (.invokevirtual 54, 3) := dw_at cX7_swapPlaces_k2 (p := 5) rfl (by decide +kernel)
theorem dcX7_swapPlaces_57 : decode cX7_swapPlaces 57 = .ok (.aload_n 0, 1) := dw_at cX7_swapPlaces_k2 (p := 8) rfl (by decide +kernel)
theorem dcX7_swapPlaces_58 : decode cX7_swapPlaces 58 = .ok (.iload_n 2, 1) := dw_at cX7_swapPlaces_k2 (p := 9) rfl (by decide +kernel)
theorem dcX7_swapPlaces_59 : decode cX7_swapPlaces 59 = .ok (.iload 4, 2) := dw_at cX7_swapPlaces_k2 (p := 10) rfl (by decide +kernel)
theorem dcX7_swapPlaces_61 : decode cX7_swapPlaces 61 = .ok (.invokevirtual 54, 3) := dw_at cX7_swapPlaces_k2 (p := 12) rfl (by decide +kernel)
theorem dcX7_swapPlaces_64 : decode cX7_swapPlaces 64 = .ok (.aload_n 0, 1) := dw_at cX7_swapPlaces_k2 (p := 15) rfl (by decide +kernel)
theorem dcX7_swapPlaces_65 : decode cX7_swapPlaces 65 = .ok (.iload 5, 2) := dw_at cX7_swapPlaces_k2 (p := 16) rfl (by decide +kernel)
theorem dcX7_swapPlaces_67 : decode cX7_swapPlaces 67 = .ok (.iload_n 1, 1) := dw_at cX7_swapPlaces_k2 (p := 18) rfl (by decide +kernel)
theorem dcX7_swapPlaces_68 : decode cX7_swapPlaces 68 = .ok (.invokevirtual 54, 3) := dw_at cX7_swapPlaces_k2 (p := 19) rfl (by decide +kernel)
theorem dcX7_swapPlaces_71 : decode cX7_swapPlaces 71 = .ok (.aload_n 0, 1) := dw_at cX7_swapPlaces_k2 (p := 22) rfl (by decide +kernel)
theorem dcX7_swapPlaces_72 : decode cX7_swapPlaces 72 = .ok (.iload_n 1, 1) := dw_at cX7_swapPlaces_k2 (p := 23) rfl (by decide +kernel)
theorem dcX7_swapPlaces_73 : decode cX7_swapPlaces 73 = .ok (.iload 6, 2) := dw_at cX7_swapPlaces_k2 (p := 24) rfl (by decide +kernel)
theorem dcX7_swapPlaces_75 : decode cX7_swapPlaces 75 = .ok (.invokevirtual 54, 3) := dw_at cX7_swapPlaces_k2 (p := 26) rfl (by decide +kernel)
theorem dcX7_swapPlaces_78 : decode cX7_swapPlaces 78 = .ok (.return_, 1) := dw_at cX7_swapPlaces_k2 (p := 29) rfl (by decide +kernel)
def cm_X7_swapPlaces_0 (vl : Nat → Nat) (K : Nat) (x1 : Int32) (x2 : Int32) (r0 : Nat) (z : ow_MS) : Option ow_MS :=
 crI (cX vl) z (r0 + 2) x1 fun v1 => cs1 (ce_X7_swapped vl K v1 x1 x2 z) fun v3 z2 => crI (cX vl) z2 (r0 + 1) x1 fun v4 => cs1 (ce_X7_swapped vl K v4 x1 x2 z2) fun v6 z5 => crI (cX vl) z5 (r0 + 2) x2 fun v7 => cs1 (ce_X7_swapped vl K v7 x1 x2 z5) fun v9 z8 => crI (cX vl) z8 (r0 + 1) x2 fun v10 => cs1 (ce_X7_swapped vl K v10 x1 x2 z8) fun v12 z11 => cs0 (ce_X7_link vl K r0 v3 x2 z11) fun z13 => cs0 (ce_X7_link vl K r0 x2 v6 z13) fun z14 => cs0 (ce_X7_link vl K r0 v9 x1 z14) fun z15 => cs0 (ce_X7_link vl K r0 x1 v12 z15) fun z16 => some z16
def ce_X7_swapPlaces (vl : Nat → Nat) (K : Nat) (r0 : Nat) (x1 : Int32) (x2 : Int32) (z : ow_MS) : Option ow_MS := cm_X7_swapPlaces_0 vl K x1 x2 r0 z
abbrev wc_X7_swapPlaces : List Cond := .code yX7_swapPlaces cX7_swapPlaces 7 none :: wC
theorem cdd_X7_swapPlaces : yX7_swapPlaces.cls = RX7 ∧ yX7_swapPlaces.cls ≠ "java/lang/invoke/MethodHandle" ∧ yX7_swapPlaces.cls ≠ "java/lang/invoke/VarHandle" ∧ (parseMethodDescriptor yX7_swapPlaces.desc).map (fun d => d.parameters.length) = some 2 := by decide +kernel
set_option maxHeartbeats 4000000 in
set_option maxRecDepth 100000 in
theorem kc_X7_swapPlaces (l : Launch) (D : va_G) (q : Nat → ClassId) (vl u : Nat → Nat) (hU0 : tw_inj (cX vl) u) (K : Nat) (r0 : Nat) (x1 : Int32) (x2 : Int32) (hr0 : cw_X7 r0) (z z1 : ow_MS) (hq : ce_X7_swapPlaces vl K r0 x1 x2 z = some z1) : Met l yX7_swapPlaces wc_X7_swapPlaces ({ frames := 1, cells := 0, slots := 0, locals := 22 } : Room) (va_Pc [.ref (u r0), .int x1, .int x2] (cw_pre D q vl u z)) (va_Qv (fun (_ : Unit) => True) (fun _ t => va_P D vwCl (uw (cX vl) q u z1) t.heap) (tw_A (cX vl) u)) 0 0 (tw_A (cX vl) u) := by
  refine Met.ofW (cc := cX7_swapPlaces) (maxL := 7) (ret := none) (by decide) rfl ?_
  intro p e s m args below meth c s₁ B hml hv
  obtain ⟨rfl, hP, hK⟩ := hv
  have hx := B.exec
  have hb := B.bytes
  have hr := B.returns
  have hts := atoms_spec (ws := wc_X7_swapPlaces) B.pre
  have hT : ∀ w ∈ wC, w.before ([.ref (u r0), .int x1, .int x2] : List Value).toArray s = true := fun w h => hts w (List.mem_cons_of_mem _ h)
  have hown : s.vm.findClass RX7 = some m.cls := findClass_of_methodNamed B.named
  have hlocks := B.notSynchronized
  have hU : uw_inj (cX vl) u (tw_A (cX vl) u) := ⟨hU0, fun h hh => ⟨h, hh, rfl⟩⟩
  have hM : uw_M D vwCl (cX vl) q (tw_A (cX vl) u) s.heap u z s.heap [] := ⟨hP, va_S.rf⟩
  have hl := lv_entry ([.ref (u r0), .int x1, .int x2]) (n := 7) (Nat.le_of_ble_eq_true rfl)
  rw [lg_entry_eq]
  generalize (lg_sl ([.ref (u r0), .int x1, .int x2]) ++ List.replicate (7 - (lg_sl ([.ref (u r0), .int x1, .int x2])).length) Slot.unset).toArray = ls at hl ⊢
  have hl : lv_has ls 7 [(0, .ref (u r0)), (1, .int x1), (2, .int x2)] := hl
  refine ow_named (fun QQ hQQ => ?_)
  generalize ([.ref (u r0), .int x1, .int x2] : List Value).toArray = args at hts hT hQQ ⊢
  have hq : cm_X7_swapPlaces_0 vl K x1 x2 r0 z = some z1 := hq
  unfold cm_X7_swapPlaces_0 at hq
  suffices key : ∀ (H : Heap) (locs : List Loc), uw_M D vwCl (cX vl) q (tw_A (cX vl) u) s.heap u z H locs → W p l e ({ frames := 1, cells := 0, slots := 0, locals := 22 } : Room) s m args below meth c H locs 0 0 QQ (F0 m 0 ls []) from key s.heap [] hM
  intro H locs hM
  refine lv_aload_n hx hb dcX7_swapPlaces_0 rfl (lv_at hl 0 rfl) ?_
  refine vgX7_15 hx hb hT hown hK hM hr0 dcX7_swapPlaces_1 ?_
  refine lv_iload_n hx hb dcX7_swapPlaces_4 rfl (lv_at hl 1 rfl) ?_
  refine uw_iald cX_ok hx hb hK hM (cr_X7_1 hr0) hq dcX7_swapPlaces_5 (fun v1 hq => ?_)
  refine lv_iload_n hx hb dcX7_swapPlaces_6 rfl (lv_at hl 1 rfl) ?_
  refine lv_iload_n hx hb dcX7_swapPlaces_7 rfl (lv_at hl 2 rfl) ?_
  obtain ⟨v3, z2, hcq, hq⟩ := tw_cl1 hq
  refine uw_cali hU hM (va_runS (As := [.int v1, .int x1, .int x2]) (rest := []) ⟨hx, hb, hml, hown, hts⟩ (kc_X7_swapped l D q vl u hU.1 K v1 x1 x2 z z2 v3 hcq) (va_cwS 3 hts (tw_gS wC_good xq_550 xq_551 xq_54 xq_552) rfl rfl rfl cdd_X7_swapped ⟨(Nat.le_of_ble_eq_true rfl), (Nat.le_of_ble_eq_true rfl)⟩) (cw_preS hK hM) rfl rfl hl.1 rfl (lv_room (Nat.le_of_ble_eq_true rfl)) dcX7_swapPlaces_8 ⟨(Nat.le_of_ble_eq_true rfl), (Nat.le_of_ble_eq_true rfl)⟩) (fun H locs hM => ?_)
  refine lv_istore_n (lv' := [(3, .int v3), (0, .ref (u r0)), (1, .int x1), (2, .int x2)]) hx hb dcX7_swapPlaces_11 rfl hl (by decide) rfl (fun ls hl => ?_)
  refine lv_aload_n hx hb dcX7_swapPlaces_12 rfl (lv_at hl 1 rfl) ?_
  refine vgX7_9 hx hb hT hown hK hM hr0 dcX7_swapPlaces_13 ?_
  refine lv_iload_n hx hb dcX7_swapPlaces_16 rfl (lv_at hl 2 rfl) ?_
  refine uw_iald cX_ok hx hb hK hM (cr_X7_0 hr0) hq dcX7_swapPlaces_17 (fun v4 hq => ?_)
  refine lv_iload_n hx hb dcX7_swapPlaces_18 rfl (lv_at hl 2 rfl) ?_
  refine lv_iload_n hx hb dcX7_swapPlaces_19 rfl (lv_at hl 3 rfl) ?_
  obtain ⟨v6, z5, hcq, hq⟩ := tw_cl1 hq
  refine uw_cali hU hM (va_runS (As := [.int v4, .int x1, .int x2]) (rest := []) ⟨hx, hb, hml, hown, hts⟩ (kc_X7_swapped l D q vl u hU.1 K v4 x1 x2 z2 z5 v6 hcq) (va_cwS 3 hts (tw_gS wC_good xq_550 xq_551 xq_54 xq_552) rfl rfl rfl cdd_X7_swapped ⟨(Nat.le_of_ble_eq_true rfl), (Nat.le_of_ble_eq_true rfl)⟩) (cw_preS hK hM) rfl rfl hl.1 rfl (lv_room (Nat.le_of_ble_eq_true rfl)) dcX7_swapPlaces_20 ⟨(Nat.le_of_ble_eq_true rfl), (Nat.le_of_ble_eq_true rfl)⟩) (fun H locs hM => ?_)
  refine lv_istore (lv' := [(4, .int v6), (3, .int v3), (0, .ref (u r0)), (1, .int x1), (2, .int x2)]) hx hb dcX7_swapPlaces_23 hl (by decide) rfl (fun ls hl => ?_)
  refine lv_aload_n hx hb dcX7_swapPlaces_25 rfl (lv_at hl 2 rfl) ?_
  refine vgX7_15 hx hb hT hown hK hM hr0 dcX7_swapPlaces_26 ?_
  refine lv_iload_n hx hb dcX7_swapPlaces_29 rfl (lv_at hl 4 rfl) ?_
  refine uw_iald cX_ok hx hb hK hM (cr_X7_1 hr0) hq dcX7_swapPlaces_30 (fun v7 hq => ?_)
  refine lv_iload_n hx hb dcX7_swapPlaces_31 rfl (lv_at hl 3 rfl) ?_
  refine lv_iload_n hx hb dcX7_swapPlaces_32 rfl (lv_at hl 4 rfl) ?_
  obtain ⟨v9, z8, hcq, hq⟩ := tw_cl1 hq
  refine uw_cali hU hM (va_runS (As := [.int v7, .int x1, .int x2]) (rest := []) ⟨hx, hb, hml, hown, hts⟩ (kc_X7_swapped l D q vl u hU.1 K v7 x1 x2 z5 z8 v9 hcq) (va_cwS 3 hts (tw_gS wC_good xq_550 xq_551 xq_54 xq_552) rfl rfl rfl cdd_X7_swapped ⟨(Nat.le_of_ble_eq_true rfl), (Nat.le_of_ble_eq_true rfl)⟩) (cw_preS hK hM) rfl rfl hl.1 rfl (lv_room (Nat.le_of_ble_eq_true rfl)) dcX7_swapPlaces_33 ⟨(Nat.le_of_ble_eq_true rfl), (Nat.le_of_ble_eq_true rfl)⟩) (fun H locs hM => ?_)
  refine lv_istore (lv' := [(5, .int v9), (4, .int v6), (3, .int v3), (0, .ref (u r0)), (1, .int x1), (2, .int x2)]) hx hb dcX7_swapPlaces_36 hl (by decide) rfl (fun ls hl => ?_)
  refine lv_aload_n hx hb dcX7_swapPlaces_38 rfl (lv_at hl 3 rfl) ?_
  refine vgX7_9 hx hb hT hown hK hM hr0 dcX7_swapPlaces_39 ?_
  refine lv_iload_n hx hb dcX7_swapPlaces_42 rfl (lv_at hl 5 rfl) ?_
  refine uw_iald cX_ok hx hb hK hM (cr_X7_0 hr0) hq dcX7_swapPlaces_43 (fun v10 hq => ?_)
  refine lv_iload_n hx hb dcX7_swapPlaces_44 rfl (lv_at hl 4 rfl) ?_
  refine lv_iload_n hx hb dcX7_swapPlaces_45 rfl (lv_at hl 5 rfl) ?_
  obtain ⟨v12, z11, hcq, hq⟩ := tw_cl1 hq
  refine uw_cali hU hM (va_runS (As := [.int v10, .int x1, .int x2]) (rest := []) ⟨hx, hb, hml, hown, hts⟩ (kc_X7_swapped l D q vl u hU.1 K v10 x1 x2 z8 z11 v12 hcq) (va_cwS 3 hts (tw_gS wC_good xq_550 xq_551 xq_54 xq_552) rfl rfl rfl cdd_X7_swapped ⟨(Nat.le_of_ble_eq_true rfl), (Nat.le_of_ble_eq_true rfl)⟩) (cw_preS hK hM) rfl rfl hl.1 rfl (lv_room (Nat.le_of_ble_eq_true rfl)) dcX7_swapPlaces_46 ⟨(Nat.le_of_ble_eq_true rfl), (Nat.le_of_ble_eq_true rfl)⟩) (fun H locs hM => ?_)
  refine lv_istore (lv' := [(6, .int v12), (5, .int v9), (4, .int v6), (3, .int v3), (0, .ref (u r0)), (1, .int x1), (2, .int x2)]) hx hb dcX7_swapPlaces_49 hl (by decide) rfl (fun ls hl => ?_)
  refine lv_aload_n hx hb dcX7_swapPlaces_51 rfl (lv_at hl 4 rfl) ?_
  refine lv_iload_n hx hb dcX7_swapPlaces_52 rfl (lv_at hl 3 rfl) ?_
  refine lv_iload_n hx hb dcX7_swapPlaces_53 rfl (lv_at hl 6 rfl) ?_
  obtain ⟨z13, hcq, hq⟩ := tw_cl0 hq
  refine uw_calv hU hM (va_runV (As := [.int v3, .int x2]) (rest := []) ⟨hx, hb, hml, hown, hts⟩ (kc_X7_link l D q vl u hU.1 K r0 v3 x2 hr0 z11 z13 hcq) (cwV 2 hts (tw_gV wC_good xq_160 xq_161 xq_162 xq_54 xq_163) rfl rfl rfl cdd_X7_link ⟨(Nat.le_of_ble_eq_true rfl), (Nat.le_of_ble_eq_true rfl)⟩) (cw_preV hK hM (co_X7 hr0) rfl) rfl rfl hl.1 rfl (lv_room (Nat.le_of_ble_eq_true rfl)) dcX7_swapPlaces_54 ⟨(Nat.le_of_ble_eq_true rfl), (Nat.le_of_ble_eq_true rfl)⟩) (fun H locs hM => ?_)
  refine lv_aload_n hx hb dcX7_swapPlaces_57 rfl (lv_at hl 4 rfl) ?_
  refine lv_iload_n hx hb dcX7_swapPlaces_58 rfl (lv_at hl 6 rfl) ?_
  refine lv_iload hx hb dcX7_swapPlaces_59 (lv_at hl 2 rfl) ?_
  obtain ⟨z14, hcq, hq⟩ := tw_cl0 hq
  refine uw_calv hU hM (va_runV (As := [.int x2, .int v6]) (rest := []) ⟨hx, hb, hml, hown, hts⟩ (kc_X7_link l D q vl u hU.1 K r0 x2 v6 hr0 z13 z14 hcq) (cwV 2 hts (tw_gV wC_good xq_160 xq_161 xq_162 xq_54 xq_163) rfl rfl rfl cdd_X7_link ⟨(Nat.le_of_ble_eq_true rfl), (Nat.le_of_ble_eq_true rfl)⟩) (cw_preV hK hM (co_X7 hr0) rfl) rfl rfl hl.1 rfl (lv_room (Nat.le_of_ble_eq_true rfl)) dcX7_swapPlaces_61 ⟨(Nat.le_of_ble_eq_true rfl), (Nat.le_of_ble_eq_true rfl)⟩) (fun H locs hM => ?_)
  refine lv_aload_n hx hb dcX7_swapPlaces_64 rfl (lv_at hl 4 rfl) ?_
  refine lv_iload hx hb dcX7_swapPlaces_65 (lv_at hl 1 rfl) ?_
  refine lv_iload_n hx hb dcX7_swapPlaces_67 rfl (lv_at hl 5 rfl) ?_
  obtain ⟨z15, hcq, hq⟩ := tw_cl0 hq
  refine uw_calv hU hM (va_runV (As := [.int v9, .int x1]) (rest := []) ⟨hx, hb, hml, hown, hts⟩ (kc_X7_link l D q vl u hU.1 K r0 v9 x1 hr0 z14 z15 hcq) (cwV 2 hts (tw_gV wC_good xq_160 xq_161 xq_162 xq_54 xq_163) rfl rfl rfl cdd_X7_link ⟨(Nat.le_of_ble_eq_true rfl), (Nat.le_of_ble_eq_true rfl)⟩) (cw_preV hK hM (co_X7 hr0) rfl) rfl rfl hl.1 rfl (lv_room (Nat.le_of_ble_eq_true rfl)) dcX7_swapPlaces_68 ⟨(Nat.le_of_ble_eq_true rfl), (Nat.le_of_ble_eq_true rfl)⟩) (fun H locs hM => ?_)
  refine lv_aload_n hx hb dcX7_swapPlaces_71 rfl (lv_at hl 4 rfl) ?_
  refine lv_iload_n hx hb dcX7_swapPlaces_72 rfl (lv_at hl 5 rfl) ?_
  refine lv_iload hx hb dcX7_swapPlaces_73 (lv_at hl 0 rfl) ?_
  obtain ⟨z16, hcq, hq⟩ := tw_cl0 hq
  refine uw_calv hU hM (va_runV (As := [.int x1, .int v12]) (rest := []) ⟨hx, hb, hml, hown, hts⟩ (kc_X7_link l D q vl u hU.1 K r0 x1 v12 hr0 z15 z16 hcq) (cwV 2 hts (tw_gV wC_good xq_160 xq_161 xq_162 xq_54 xq_163) rfl rfl rfl cdd_X7_link ⟨(Nat.le_of_ble_eq_true rfl), (Nat.le_of_ble_eq_true rfl)⟩) (cw_preV hK hM (co_X7 hr0) rfl) rfl rfl hl.1 rfl (lv_room (Nat.le_of_ble_eq_true rfl)) dcX7_swapPlaces_75 ⟨(Nat.le_of_ble_eq_true rfl), (Nat.le_of_ble_eq_true rfl)⟩) (fun H locs hM => ?_)
  exact cw_vret hx hb hr hlocks hM hq hQQ dcX7_swapPlaces_78
theorem dcX6_threePass_0 : decode cX6_threePass 0 = .ok (.aload_n 0, 1) := dw_at cX6_threePass_k0 (p := 0) rfl (by decide +kernel)
theorem dcX6_threePass_1 : decode cX6_threePass 1 = .ok (.getfield 29, 3) := dw_at cX6_threePass_k0 (p := 1) rfl (by decide +kernel)
theorem dcX6_threePass_4 : decode cX6_threePass 4 = .ok (.iload_n 1, 1) := dw_at cX6_threePass_k0 (p := 4) rfl (by decide +kernel)
theorem dcX6_threePass_5 : decode cX6_threePass 5 = .ok (.invokestatic 153, 3) := dw_at cX6_threePass_k0 (p := 5) rfl (by decide +kernel)
theorem dcX6_threePass_8 : decode cX6_threePass 8 = .ok (.istore_n 2, 1) := dw_at cX6_threePass_k0 (p := 8) rfl (by decide +kernel)
theorem dcX6_threePass_9 : decode cX6_threePass 9 = .ok (.aload_n 0, 1) := dw_at cX6_threePass_k0 (p := 9) rfl (by decide +kernel)
theorem dcX6_threePass_10 : decode cX6_threePass 10 = .ok (.getfield 29, 3) := dw_at cX6_threePass_k0 (p := 10) rfl (by decide +kernel)
theorem dcX6_threePass_13 : decode cX6_threePass 13 = .ok (.iload_n 2, 1) := dw_at cX6_threePass_k0 (p := 13) rfl (by decide +kernel)
theorem dcX6_threePass_14 : decode cX6_threePass 14 = .ok (.invokestatic 153, 3) := dw_at cX6_threePass_k0 (p := 14) rfl (by decide +kernel)
theorem dcX6_threePass_17 : decode cX6_threePass 17 = .ok (.istore_n 3, 1) := dw_at cX6_threePass_k0 (p := 17) rfl (by decide +kernel)
theorem dcX6_threePass_18 : decode cX6_threePass 18 = .ok (.iload_n 1, 1) := dw_at cX6_threePass_k0 (p := 18) rfl (by decide +kernel)
theorem dcX6_threePass_19 : decode cX6_threePass 19 = .ok (.iload_n 2, 1) := dw_at cX6_threePass_k0 (p := 19) rfl (by decide +kernel)
theorem dcX6_threePass_20 : decode cX6_threePass 20 = .ok (.if_icmp .ge 30, 3) := dw_at cX6_threePass_k0 (p := 20) rfl (by decide +kernel)
theorem dcX6_threePass_23 : decode cX6_threePass 23 = .ok (.iload_n 1, 1) := dw_at cX6_threePass_k0 (p := 23) rfl (by decide +kernel)
theorem dcX6_threePass_24 : decode cX6_threePass 24 = .ok (.iload_n 3, 1) := dw_at cX6_threePass_k1 (p := 0) rfl (by decide +kernel)
theorem dcX6_threePass_25 : decode cX6_threePass 25 = .ok (.if_icmp .ge 25, 3) := dw_at cX6_threePass_k1 (p := 1) rfl (by decide +kernel)
theorem dcX6_threePass_28 : decode cX6_threePass 28 = .ok (.aload_n 0, 1) := dw_at cX6_threePass_k1 (p := 4) rfl (by decide +kernel)
theorem dcX6_threePass_29 : decode cX6_threePass 29 = .ok (.getfield 29, 3) := dw_at cX6_threePass_k1 (p := 5) rfl (by decide +kernel)
theorem dcX6_threePass_32 : decode cX6_threePass 32 = .ok (.iload_n 3, 1) := dw_at cX6_threePass_k1 (p := 8) rfl (by decide +kernel)
theorem dcX6_threePass_33 : decode cX6_threePass 33 = .ok (.invokestatic 153, 3) := dw_at cX6_threePass_k1 (p := 9) rfl (by decide +kernel)
theorem dcX6_threePass_36 : decode cX6_threePass 36 = .ok (.iload_n 1, 1) := dw_at cX6_threePass_k1 (p := 12) rfl (by decide +kernel)
theorem dcX6_threePass_37 : decode cX6_threePass 37 = .ok (.if_icmp .ne 13, 3) := dw_at cX6_threePass_k1 (p := 13) rfl (by decide +kernel)
theorem dcX6_threePass_40 : decode cX6_threePass 40 = .ok (.aload_n 0, 1) := dw_at cX6_threePass_k1 (p := 16) rfl (by decide +kernel)
theorem dcX6_threePass_41 : decode cX6_threePass 41 = .ok (.iload_n 1, 1) := dw_at cX6_threePass_k1 (p := 17) rfl (by decide +kernel)
theorem dcX6_threePass_42 : decode cX6_threePass 42 = .ok (.iload_n 2, 1) := dw_at cX6_threePass_k1 (p := 18) rfl (by decide +kernel)
theorem dcX6_threePass_43 : decode cX6_threePass 43 = .ok (.iload_n 3, 1) := dw_at cX6_threePass_k1 (p := 19) rfl (by decide +kernel)
theorem dcX6_threePass_44 : decode cX6_threePass 44 = .ok (.invokevirtual 157, 3) := dw_at cX6_threePass_k1 (p := 20) rfl (by decide +kernel)
theorem dcX6_threePass_47 : decode cX6_threePass 47 = .ok (.ifCond .ne 5, 3) := dw_at cX6_threePass_k1 (p := 23) rfl (by decide +kernel)
theorem dcX6_threePass_50 : decode cX6_threePass 50 = .ok (.iconst 0, 1) := dw_at cX6_threePass_k2 (p := 0) rfl (by decide +kernel)
theorem dcX6_threePass_51 : decode cX6_threePass 51 = .ok (.ireturn, 1) := dw_at cX6_threePass_k2 (p := 1) rfl (by decide +kernel)
theorem dcX6_threePass_52 : decode cX6_threePass 52 = .ok (.aload_n 0, 1) := dw_at cX6_threePass_k2 (p := 2) rfl (by decide +kernel)
theorem dcX6_threePass_53 : decode cX6_threePass 53 = .ok (.getfield 33, 3) := dw_at cX6_threePass_k2 (p := 3) rfl (by decide +kernel)
theorem dcX6_threePass_56 : decode cX6_threePass 56 = .ok (.aload_n 0, 1) := dw_at cX6_threePass_k2 (p := 6) rfl (by decide +kernel)
theorem dcX6_threePass_57 : decode cX6_threePass 57 = .ok (.getfield 29, 3) := dw_at cX6_threePass_k2 (p := 7) rfl (by decide +kernel)
theorem dcX6_threePass_60 : decode cX6_threePass 60 = .ok (.invokevirtual 106, 3) := dw_at cX6_threePass_k2 (p := 10) rfl (by decide +kernel)
theorem dcX6_threePass_63 : decode cX6_threePass 63 = .ok (.aload_n 0, 1) := dw_at cX6_threePass_k2 (p := 13) rfl (by decide +kernel)
theorem dcX6_threePass_64 : decode cX6_threePass 64 = .ok (.getfield 33, 3) := dw_at cX6_threePass_k2 (p := 14) rfl (by decide +kernel)
theorem dcX6_threePass_67 : decode cX6_threePass 67 = .ok (.iload_n 1, 1) := dw_at cX6_threePass_k2 (p := 17) rfl (by decide +kernel)
theorem dcX6_threePass_68 : decode cX6_threePass 68 = .ok (.iconst 1, 1) := dw_at cX6_threePass_k2 (p := 18) rfl (by decide +kernel)
theorem dcX6_threePass_69 : decode cX6_threePass 69 = .ok (.ishr, 1) := dw_at cX6_threePass_k2 (p := 19) rfl (by decide +kernel)
theorem dcX6_threePass_70 : decode cX6_threePass 70 = .ok (.aload_n 0, 1) := dw_at cX6_threePass_k2 (p := 20) rfl (by decide +kernel)
theorem dcX6_threePass_71 : decode cX6_threePass 71 = .ok (.getfield 29, 3) := dw_at cX6_threePass_k2 (p := 21) rfl (by decide +kernel)
theorem dcX6_threePass_74 : decode cX6_threePass 74 = .ok (.getfield 116, 3) := dw_at cX6_threePass_k3 (p := 0) rfl (by decide +kernel)
theorem dcX6_threePass_77 : decode cX6_threePass 77 = .ok (.iload_n 1, 1) := dw_at cX6_threePass_k3 (p := 3) rfl (by decide +kernel)
theorem dcX6_threePass_78 : decode cX6_threePass 78 = .ok (.iconst 1, 1) := dw_at cX6_threePass_k3 (p := 4) rfl (by decide +kernel)
theorem dcX6_threePass_79 : decode cX6_threePass 79 = .ok (.ishr, 1) := dw_at cX6_threePass_k3 (p := 5) rfl (by decide +kernel)
theorem dcX6_threePass_80 : decode cX6_threePass 80 = .ok (.iaload, 1) := dw_at cX6_threePass_k3 (p := 6) rfl (by decide +kernel)
theorem dcX6_threePass_81 : decode cX6_threePass 81 = .ok (.invokevirtual 160, 3) := dw_at cX6_threePass_k3 (p := 7) rfl (by decide +kernel)
theorem dcX6_threePass_84 : decode cX6_threePass 84 = .ok (.aload_n 0, 1) := dw_at cX6_threePass_k3 (p := 10) rfl (by decide +kernel)
theorem dcX6_threePass_85 : decode cX6_threePass 85 = .ok (.getfield 33, 3) := dw_at cX6_threePass_k3 (p := 11) rfl (by decide +kernel)
theorem dcX6_threePass_88 : decode cX6_threePass 88 = .ok (.iload_n 2, 1) := dw_at cX6_threePass_k3 (p := 14) rfl (by decide +kernel)
theorem dcX6_threePass_89 : decode cX6_threePass 89 = .ok (.iconst 1, 1) := dw_at cX6_threePass_k3 (p := 15) rfl (by decide +kernel)
theorem dcX6_threePass_90 : decode cX6_threePass 90 = .ok (.ishr, 1) := dw_at cX6_threePass_k3 (p := 16) rfl (by decide +kernel)
theorem dcX6_threePass_91 : decode cX6_threePass 91 = .ok (.aload_n 0, 1) := dw_at cX6_threePass_k3 (p := 17) rfl (by decide +kernel)
theorem dcX6_threePass_92 : decode cX6_threePass 92 = .ok (.getfield 29, 3) := dw_at cX6_threePass_k3 (p := 18) rfl (by decide +kernel)
theorem dcX6_threePass_95 : decode cX6_threePass 95 = .ok (.getfield 116, 3) := dw_at cX6_threePass_k3 (p := 21) rfl (by decide +kernel)
theorem dcX6_threePass_98 : decode cX6_threePass 98 = .ok (.iload_n 2, 1) := dw_at cX6_threePass_k4 (p := 0) rfl (by decide +kernel)
theorem dcX6_threePass_99 : decode cX6_threePass 99 = .ok (.iconst 1, 1) := dw_at cX6_threePass_k4 (p := 1) rfl (by decide +kernel)
theorem dcX6_threePass_100 : decode cX6_threePass 100 = .ok (.ishr, 1) := dw_at cX6_threePass_k4 (p := 2) rfl (by decide +kernel)
theorem dcX6_threePass_101 : decode cX6_threePass 101 = .ok (.iaload, 1) := dw_at cX6_threePass_k4 (p := 3) rfl (by decide +kernel)
theorem dcX6_threePass_102 : decode cX6_threePass 102 = .ok (.invokevirtual 160, 3) := dw_at cX6_threePass_k4 (p := 4) rfl (by decide +kernel)
theorem dcX6_threePass_105 : decode cX6_threePass 105 = .ok (.aload_n 0, 1) := dw_at cX6_threePass_k4 (p := 7) rfl (by decide +kernel)
theorem dcX6_threePass_106 : decode cX6_threePass 106 = .ok (.getfield 33, 3) := dw_at cX6_threePass_k4 (p := 8) rfl (by decide +kernel)
theorem dcX6_threePass_109 : decode cX6_threePass 109 = .ok (.iload_n 3, 1) := dw_at cX6_threePass_k4 (p := 11) rfl (by decide +kernel)
theorem dcX6_threePass_110 : decode cX6_threePass 110 = .ok (.iconst 1, 1) := dw_at cX6_threePass_k4 (p := 12) rfl (by decide +kernel)
theorem dcX6_threePass_111 : decode cX6_threePass 111 = .ok (.ishr, 1) := dw_at cX6_threePass_k4 (p := 13) rfl (by decide +kernel)
theorem dcX6_threePass_112 : decode cX6_threePass 112 = .ok (.aload_n 0, 1) := dw_at cX6_threePass_k4 (p := 14) rfl (by decide +kernel)
theorem dcX6_threePass_113 : decode cX6_threePass 113 = .ok (.getfield 29, 3) := dw_at cX6_threePass_k4 (p := 15) rfl (by decide +kernel)
theorem dcX6_threePass_116 : decode cX6_threePass 116 = .ok (.getfield 116, 3) := dw_at cX6_threePass_k4 (p := 18) rfl (by decide +kernel)
theorem dcX6_threePass_119 : decode cX6_threePass 119 = .ok (.iload_n 3, 1) := dw_at cX6_threePass_k4 (p := 21) rfl (by decide +kernel)
theorem dcX6_threePass_120 : decode cX6_threePass 120 = .ok (.iconst 1, 1) := dw_at cX6_threePass_k4 (p := 22) rfl (by decide +kernel)
theorem dcX6_threePass_121 : decode cX6_threePass 121 = .ok (.ishr, 1) := dw_at cX6_threePass_k4 (p := 23) rfl (by decide +kernel)
theorem dcX6_threePass_122 : decode cX6_threePass 122 = .ok (.iaload, 1) := dw_at cX6_threePass_k4 (p := 24) rfl (by decide +kernel)
theorem dcX6_threePass_123 : decode cX6_threePass 123 = .ok (.invokevirtual 160, 3) := dw_at cX6_threePass_k4 (p := 25) rfl (by decide +kernel)
theorem dcX6_threePass_126 : decode cX6_threePass 126 = .ok (.iconst 1, 1) := dw_at cX6_threePass_k4 (p := 28) rfl (by decide +kernel)
theorem dcX6_threePass_127 : decode cX6_threePass 127 = .ok (.ireturn, 1) := dw_at cX6_threePass_k4 (p := 29) rfl (by decide +kernel)
def cm_X6_threePass_0 (vl : Nat → Nat) (K : Nat) (x1 : Int32) (r0 : Nat) (z : ow_MS) : Option (Int32 × ow_MS) :=
 cs1 (ce_X4_onward vl K (r0 + 4000) x1 z) fun v2 z1 => cs1 (ce_X4_onward vl K (r0 + 4000) v2 z1) fun v4 z3 => (if v2 ≤ x1 then okZ 0 (some (0, z3))
 else (if v4 ≤ x1 then okZ 0 (some (0, z3))
 else cs1 (ce_X4_onward vl K (r0 + 4000) v4 z3) fun v6 z5 => (if v6 = x1 then cs1 (ce_X6_isPassable vl K r0 x1 v2 v4 z5) fun v8 z7 => (if v8 = 0 then okZ 0 (some (0, z7))
 else cs0 (ce_X7_copy vl K (r0 + 5000) (r0 + 4000) z7) fun z9 => crI (cX vl) z9 ((r0 + 4000) + 1) ((x1 : Int32) >>> ((1 : Int32) &&& 31)) fun v10 => cs0 (ce_X7_swapPlaces vl K (r0 + 5000) ((x1 : Int32) >>> ((1 : Int32) &&& 31)) v10 z9) fun z11 => crI (cX vl) z11 ((r0 + 4000) + 1) ((v2 : Int32) >>> ((1 : Int32) &&& 31)) fun v12 => cs0 (ce_X7_swapPlaces vl K (r0 + 5000) ((v2 : Int32) >>> ((1 : Int32) &&& 31)) v12 z11) fun z13 => crI (cX vl) z13 ((r0 + 4000) + 1) ((v4 : Int32) >>> ((1 : Int32) &&& 31)) fun v14 => cs0 (ce_X7_swapPlaces vl K (r0 + 5000) ((v4 : Int32) >>> ((1 : Int32) &&& 31)) v14 z13) fun z15 => okZ 1 (some (1, z15)))
 else okZ 0 (some (0, z5)))))
def ce_X6_threePass (vl : Nat → Nat) (K : Nat) (r0 : Nat) (x1 : Int32) (z : ow_MS) : Option (Int32 × ow_MS) := cm_X6_threePass_0 vl K x1 r0 z
abbrev wc_X6_threePass : List Cond := .code yX6_threePass cX6_threePass 4 (some .boolean) :: wC
theorem cdd_X6_threePass : yX6_threePass.cls = RX6 ∧ yX6_threePass.cls ≠ "java/lang/invoke/MethodHandle" ∧ yX6_threePass.cls ≠ "java/lang/invoke/VarHandle" ∧ (parseMethodDescriptor yX6_threePass.desc).map (fun d => d.parameters.length) = some 1 := by decide +kernel
set_option maxHeartbeats 4000000 in
set_option maxRecDepth 100000 in
theorem kc_X6_threePass (l : Launch) (D : va_G) (q : Nat → ClassId) (vl u : Nat → Nat) (hU0 : tw_inj (cX vl) u) (K : Nat) (r0 : Nat) (x1 : Int32) (hr0 : cw_X6 r0) (z z1 : ow_MS) (r : Int32) (hq : ce_X6_threePass vl K r0 x1 z = some (r, z1)) : Met l yX6_threePass wc_X6_threePass ({ frames := 2, cells := 0, slots := 0, locals := 81 } : Room) (va_Pc [.ref (u r0), .int x1] (cw_pre D q vl u z)) (va_Qi (fun x (_ : Unit) => x = r) (fun _ t => va_P D vwCl (uw (cX vl) q u z1) t.heap) (tw_A (cX vl) u)) 0 0 (tw_A (cX vl) u) := by
  refine Met.ofW (cc := cX6_threePass) (maxL := 4) (ret := (some .boolean)) (by decide) rfl ?_
  intro p e s m args below meth c s₁ B hml hv
  obtain ⟨rfl, hP, hK⟩ := hv
  have hx := B.exec
  have hb := B.bytes
  have hr := B.returns
  have hts := atoms_spec (ws := wc_X6_threePass) B.pre
  have hT : ∀ w ∈ wC, w.before ([.ref (u r0), .int x1] : List Value).toArray s = true := fun w h => hts w (List.mem_cons_of_mem _ h)
  have hown : s.vm.findClass RX6 = some m.cls := findClass_of_methodNamed B.named
  have hlocks := B.notSynchronized
  have hU : uw_inj (cX vl) u (tw_A (cX vl) u) := ⟨hU0, fun h hh => ⟨h, hh, rfl⟩⟩
  have hM : uw_M D vwCl (cX vl) q (tw_A (cX vl) u) s.heap u z s.heap [] := ⟨hP, va_S.rf⟩
  have hl := lv_entry ([.ref (u r0), .int x1]) (n := 4) (Nat.le_of_ble_eq_true rfl)
  rw [lg_entry_eq]
  generalize (lg_sl ([.ref (u r0), .int x1]) ++ List.replicate (4 - (lg_sl ([.ref (u r0), .int x1])).length) Slot.unset).toArray = ls at hl ⊢
  have hl : lv_has ls 4 [(0, .ref (u r0)), (1, .int x1)] := hl
  refine ow_named (fun QQ hQQ => ?_)
  generalize ([.ref (u r0), .int x1] : List Value).toArray = args at hts hT hQQ ⊢
  have hq : cm_X6_threePass_0 vl K x1 r0 z = some (r, z1) := hq
  unfold cm_X6_threePass_0 at hq
  suffices key : ∀ (H : Heap) (locs : List Loc), uw_M D vwCl (cX vl) q (tw_A (cX vl) u) s.heap u z H locs → W p l e ({ frames := 2, cells := 0, slots := 0, locals := 81 } : Room) s m args below meth c H locs 0 0 QQ (F0 m 0 ls []) from key s.heap [] hM
  intro H locs hM
  refine lv_aload_n hx hb dcX6_threePass_0 rfl (lv_at hl 0 rfl) ?_
  refine vgX6_29 hx hb hT hown hK hM hr0 dcX6_threePass_1 ?_
  refine lv_iload_n hx hb dcX6_threePass_4 rfl (lv_at hl 1 rfl) ?_
  obtain ⟨v2, z1, hcq, hq⟩ := tw_cl1 hq
  refine uw_cali hU hM (va_runS (As := [.ref (u (r0 + 4000)), .int x1]) (rest := []) ⟨hx, hb, hml, hown, hts⟩ (kc_X4_onward l D q vl u hU.1 K (r0 + 4000) x1 (cs_X6_3 hr0) z z1 v2 hcq) (va_cwS 2 hts (tw_gS wC_good xq_535 xq_349 xq_350 xq_343) rfl rfl rfl cdd_X4_onward ⟨(Nat.le_of_ble_eq_true rfl), (Nat.le_of_ble_eq_true rfl)⟩) (cw_preS hK hM) rfl rfl hl.1 rfl (lv_room (Nat.le_of_ble_eq_true rfl)) dcX6_threePass_5 ⟨(Nat.le_of_ble_eq_true rfl), (Nat.le_of_ble_eq_true rfl)⟩) (fun H locs hM => ?_)
  refine lv_istore_n (lv' := [(2, .int v2), (0, .ref (u r0)), (1, .int x1)]) hx hb dcX6_threePass_8 rfl hl (by decide) rfl (fun ls hl => ?_)
  refine lv_aload_n hx hb dcX6_threePass_9 rfl (lv_at hl 1 rfl) ?_
  refine vgX6_29 hx hb hT hown hK hM hr0 dcX6_threePass_10 ?_
  refine lv_iload_n hx hb dcX6_threePass_13 rfl (lv_at hl 0 rfl) ?_
  obtain ⟨v4, z3, hcq, hq⟩ := tw_cl1 hq
  refine uw_cali hU hM (va_runS (As := [.ref (u (r0 + 4000)), .int v2]) (rest := []) ⟨hx, hb, hml, hown, hts⟩ (kc_X4_onward l D q vl u hU.1 K (r0 + 4000) v2 (cs_X6_3 hr0) z1 z3 v4 hcq) (va_cwS 2 hts (tw_gS wC_good xq_535 xq_349 xq_350 xq_343) rfl rfl rfl cdd_X4_onward ⟨(Nat.le_of_ble_eq_true rfl), (Nat.le_of_ble_eq_true rfl)⟩) (cw_preS hK hM) rfl rfl hl.1 rfl (lv_room (Nat.le_of_ble_eq_true rfl)) dcX6_threePass_14 ⟨(Nat.le_of_ble_eq_true rfl), (Nat.le_of_ble_eq_true rfl)⟩) (fun H locs hM => ?_)
  refine lv_istore_n (lv' := [(3, .int v4), (2, .int v2), (0, .ref (u r0)), (1, .int x1)]) hx hb dcX6_threePass_17 rfl hl (by decide) rfl (fun ls hl => ?_)
  refine lv_iload_n hx hb dcX6_threePass_18 rfl (lv_at hl 3 rfl) ?_
  refine lv_iload_n hx hb dcX6_threePass_19 rfl (lv_at hl 1 rfl) ?_
  refine lv_icmp_ge (tgt := 50) hx hb dcX6_threePass_20 (by decide) (fun hc => ?_) (fun hc => ?_)
  · have hq := tw_it hq hc
    refine lv_iconst (v := 0) hx hb dcX6_threePass_50 (by decide) ?_
    obtain ⟨hz, hq⟩ := tw_gZ hq
    exact cw_zret hx hb hr hlocks hM hz hq hQQ dcX6_threePass_51
  · have hq := tw_if hq hc
    refine lv_iload_n hx hb dcX6_threePass_23 rfl (lv_at hl 3 rfl) ?_
    refine lv_iload_n hx hb dcX6_threePass_24 rfl (lv_at hl 0 rfl) ?_
    refine lv_icmp_ge (tgt := 50) hx hb dcX6_threePass_25 (by decide) (fun hc => ?_) (fun hc => ?_)
    · have hq := tw_it hq hc
      refine lv_iconst (v := 0) hx hb dcX6_threePass_50 (by decide) ?_
      obtain ⟨hz, hq⟩ := tw_gZ hq
      exact cw_zret hx hb hr hlocks hM hz hq hQQ dcX6_threePass_51
    · have hq := tw_if hq hc
      refine lv_aload_n hx hb dcX6_threePass_28 rfl (lv_at hl 2 rfl) ?_
      refine vgX6_29 hx hb hT hown hK hM hr0 dcX6_threePass_29 ?_
      refine lv_iload_n hx hb dcX6_threePass_32 rfl (lv_at hl 0 rfl) ?_
      obtain ⟨v6, z5, hcq, hq⟩ := tw_cl1 hq
      refine uw_cali hU hM (va_runS (As := [.ref (u (r0 + 4000)), .int v4]) (rest := []) ⟨hx, hb, hml, hown, hts⟩ (kc_X4_onward l D q vl u hU.1 K (r0 + 4000) v4 (cs_X6_3 hr0) z3 z5 v6 hcq) (va_cwS 2 hts (tw_gS wC_good xq_535 xq_349 xq_350 xq_343) rfl rfl rfl cdd_X4_onward ⟨(Nat.le_of_ble_eq_true rfl), (Nat.le_of_ble_eq_true rfl)⟩) (cw_preS hK hM) rfl rfl hl.1 rfl (lv_room (Nat.le_of_ble_eq_true rfl)) dcX6_threePass_33 ⟨(Nat.le_of_ble_eq_true rfl), (Nat.le_of_ble_eq_true rfl)⟩) (fun H locs hM => ?_)
      refine lv_iload_n hx hb dcX6_threePass_36 rfl (lv_at hl 3 rfl) ?_
      refine lv_icmp_ne (tgt := 50) hx hb dcX6_threePass_37 (by decide) (fun hc => ?_) (fun hc => ?_)
      · have hq := tw_if hq hc
        refine lv_iconst (v := 0) hx hb dcX6_threePass_50 (by decide) ?_
        obtain ⟨hz, hq⟩ := tw_gZ hq
        exact cw_zret hx hb hr hlocks hM hz hq hQQ dcX6_threePass_51
      · have hq := tw_it hq hc
        refine lv_aload_n hx hb dcX6_threePass_40 rfl (lv_at hl 2 rfl) ?_
        refine lv_iload_n hx hb dcX6_threePass_41 rfl (lv_at hl 3 rfl) ?_
        refine lv_iload_n hx hb dcX6_threePass_42 rfl (lv_at hl 1 rfl) ?_
        refine lv_iload_n hx hb dcX6_threePass_43 rfl (lv_at hl 0 rfl) ?_
        obtain ⟨v8, z7, hcq, hq⟩ := tw_cl1 hq
        refine uw_cali hU hM (va_runV (As := [.int x1, .int v2, .int v4]) (rest := []) ⟨hx, hb, hml, hown, hts⟩ (kc_X6_isPassable l D q vl u hU.1 K r0 x1 v2 v4 hr0 z5 z7 v8 hcq) (cwV 3 hts (tw_gV wC_good xq_536 xq_537 xq_538 xq_146 xq_539) rfl rfl rfl cdd_X6_isPassable ⟨(Nat.le_of_ble_eq_true rfl), (Nat.le_of_ble_eq_true rfl)⟩) (cw_preV hK hM (co_X6 hr0) rfl) rfl rfl hl.1 rfl (lv_room (Nat.le_of_ble_eq_true rfl)) dcX6_threePass_44 ⟨(Nat.le_of_ble_eq_true rfl), (Nat.le_of_ble_eq_true rfl)⟩) (fun H locs hM => ?_)
        refine lv_if_ne (tgt := 52) hx hb dcX6_threePass_47 (by decide) (fun hc => ?_) (fun hc => ?_)
        · have hq := tw_if hq hc
          refine lv_aload_n hx hb dcX6_threePass_52 rfl (lv_at hl 2 rfl) ?_
          refine vgX6_33 hx hb hT hown hK hM hr0 dcX6_threePass_53 ?_
          refine lv_aload_n hx hb dcX6_threePass_56 rfl (lv_at hl 2 rfl) ?_
          refine vgX6_29 hx hb hT hown hK hM hr0 dcX6_threePass_57 ?_
          obtain ⟨z9, hcq, hq⟩ := tw_cl0 hq
          refine uw_calv hU hM (va_runV (As := [.ref (u (r0 + 4000))]) (rest := []) ⟨hx, hb, hml, hown, hts⟩ (kc_X7_copy l D q vl u hU.1 K (r0 + 5000) (r0 + 4000) (cs_X6_4 hr0) (cs_X6_3 hr0) z7 z9 hcq) (cwV 1 hts (tw_gV wC_good xq_493 xq_125 xq_126 xq_54 xq_127) rfl rfl rfl cdd_X7_copy ⟨(Nat.le_of_ble_eq_true rfl), (Nat.le_of_ble_eq_true rfl)⟩) (cw_preV hK hM (co_X7 (cs_X6_4 hr0)) rfl) rfl rfl hl.1 rfl (lv_room (Nat.le_of_ble_eq_true rfl)) dcX6_threePass_60 ⟨(Nat.le_of_ble_eq_true rfl), (Nat.le_of_ble_eq_true rfl)⟩) (fun H locs hM => ?_)
          refine lv_aload_n hx hb dcX6_threePass_63 rfl (lv_at hl 2 rfl) ?_
          refine vgX6_33 hx hb hT hown hK hM hr0 dcX6_threePass_64 ?_
          refine lv_iload_n hx hb dcX6_threePass_67 rfl (lv_at hl 3 rfl) ?_
          refine lv_iconst (v := 1) hx hb dcX6_threePass_68 (by decide) ?_
          refine lv_ishr hx hb dcX6_threePass_69 ?_
          refine lv_aload_n hx hb dcX6_threePass_70 rfl (lv_at hl 2 rfl) ?_
          refine vgX6_29 hx hb hT hown hK hM hr0 dcX6_threePass_71 ?_
          refine vgX6_116 hx hb hT hown hK hM (cs_X6_3 hr0) dcX6_threePass_74 ?_
          refine lv_iload_n hx hb dcX6_threePass_77 rfl (lv_at hl 3 rfl) ?_
          refine lv_iconst (v := 1) hx hb dcX6_threePass_78 (by decide) ?_
          refine lv_ishr hx hb dcX6_threePass_79 ?_
          refine uw_iald cX_ok hx hb hK hM (cr_X7_0 (cs_X6_3 hr0)) hq dcX6_threePass_80 (fun v10 hq => ?_)
          obtain ⟨z11, hcq, hq⟩ := tw_cl0 hq
          refine uw_calv hU hM (va_runV (As := [.int ((x1 : Int32) >>> ((1 : Int32) &&& 31)), .int v10]) (rest := []) ⟨hx, hb, hml, hown, hts⟩ (kc_X7_swapPlaces l D q vl u hU.1 K (r0 + 5000) ((x1 : Int32) >>> ((1 : Int32) &&& 31)) v10 (cs_X6_4 hr0) z9 z11 hcq) (cwV 2 hts (tw_gV wC_good xq_546 xq_547 xq_548 xq_54 xq_549) rfl rfl rfl cdd_X7_swapPlaces ⟨(Nat.le_of_ble_eq_true rfl), (Nat.le_of_ble_eq_true rfl)⟩) (cw_preV hK hM (co_X7 (cs_X6_4 hr0)) rfl) rfl rfl hl.1 rfl (lv_room (Nat.le_of_ble_eq_true rfl)) dcX6_threePass_81 ⟨(Nat.le_of_ble_eq_true rfl), (Nat.le_of_ble_eq_true rfl)⟩) (fun H locs hM => ?_)
          refine lv_aload_n hx hb dcX6_threePass_84 rfl (lv_at hl 2 rfl) ?_
          refine vgX6_33 hx hb hT hown hK hM hr0 dcX6_threePass_85 ?_
          refine lv_iload_n hx hb dcX6_threePass_88 rfl (lv_at hl 1 rfl) ?_
          refine lv_iconst (v := 1) hx hb dcX6_threePass_89 (by decide) ?_
          refine lv_ishr hx hb dcX6_threePass_90 ?_
          refine lv_aload_n hx hb dcX6_threePass_91 rfl (lv_at hl 2 rfl) ?_
          refine vgX6_29 hx hb hT hown hK hM hr0 dcX6_threePass_92 ?_
          refine vgX6_116 hx hb hT hown hK hM (cs_X6_3 hr0) dcX6_threePass_95 ?_
          refine lv_iload_n hx hb dcX6_threePass_98 rfl (lv_at hl 1 rfl) ?_
          refine lv_iconst (v := 1) hx hb dcX6_threePass_99 (by decide) ?_
          refine lv_ishr hx hb dcX6_threePass_100 ?_
          refine uw_iald cX_ok hx hb hK hM (cr_X7_0 (cs_X6_3 hr0)) hq dcX6_threePass_101 (fun v12 hq => ?_)
          obtain ⟨z13, hcq, hq⟩ := tw_cl0 hq
          refine uw_calv hU hM (va_runV (As := [.int ((v2 : Int32) >>> ((1 : Int32) &&& 31)), .int v12]) (rest := []) ⟨hx, hb, hml, hown, hts⟩ (kc_X7_swapPlaces l D q vl u hU.1 K (r0 + 5000) ((v2 : Int32) >>> ((1 : Int32) &&& 31)) v12 (cs_X6_4 hr0) z11 z13 hcq) (cwV 2 hts (tw_gV wC_good xq_546 xq_547 xq_548 xq_54 xq_549) rfl rfl rfl cdd_X7_swapPlaces ⟨(Nat.le_of_ble_eq_true rfl), (Nat.le_of_ble_eq_true rfl)⟩) (cw_preV hK hM (co_X7 (cs_X6_4 hr0)) rfl) rfl rfl hl.1 rfl (lv_room (Nat.le_of_ble_eq_true rfl)) dcX6_threePass_102 ⟨(Nat.le_of_ble_eq_true rfl), (Nat.le_of_ble_eq_true rfl)⟩) (fun H locs hM => ?_)
          refine lv_aload_n hx hb dcX6_threePass_105 rfl (lv_at hl 2 rfl) ?_
          refine vgX6_33 hx hb hT hown hK hM hr0 dcX6_threePass_106 ?_
          refine lv_iload_n hx hb dcX6_threePass_109 rfl (lv_at hl 0 rfl) ?_
          refine lv_iconst (v := 1) hx hb dcX6_threePass_110 (by decide) ?_
          refine lv_ishr hx hb dcX6_threePass_111 ?_
          refine lv_aload_n hx hb dcX6_threePass_112 rfl (lv_at hl 2 rfl) ?_
          refine vgX6_29 hx hb hT hown hK hM hr0 dcX6_threePass_113 ?_
          refine vgX6_116 hx hb hT hown hK hM (cs_X6_3 hr0) dcX6_threePass_116 ?_
          refine lv_iload_n hx hb dcX6_threePass_119 rfl (lv_at hl 0 rfl) ?_
          refine lv_iconst (v := 1) hx hb dcX6_threePass_120 (by decide) ?_
          refine lv_ishr hx hb dcX6_threePass_121 ?_
          refine uw_iald cX_ok hx hb hK hM (cr_X7_0 (cs_X6_3 hr0)) hq dcX6_threePass_122 (fun v14 hq => ?_)
          obtain ⟨z15, hcq, hq⟩ := tw_cl0 hq
          refine uw_calv hU hM (va_runV (As := [.int ((v4 : Int32) >>> ((1 : Int32) &&& 31)), .int v14]) (rest := []) ⟨hx, hb, hml, hown, hts⟩ (kc_X7_swapPlaces l D q vl u hU.1 K (r0 + 5000) ((v4 : Int32) >>> ((1 : Int32) &&& 31)) v14 (cs_X6_4 hr0) z13 z15 hcq) (cwV 2 hts (tw_gV wC_good xq_546 xq_547 xq_548 xq_54 xq_549) rfl rfl rfl cdd_X7_swapPlaces ⟨(Nat.le_of_ble_eq_true rfl), (Nat.le_of_ble_eq_true rfl)⟩) (cw_preV hK hM (co_X7 (cs_X6_4 hr0)) rfl) rfl rfl hl.1 rfl (lv_room (Nat.le_of_ble_eq_true rfl)) dcX6_threePass_123 ⟨(Nat.le_of_ble_eq_true rfl), (Nat.le_of_ble_eq_true rfl)⟩) (fun H locs hM => ?_)
          refine lv_iconst (v := 1) hx hb dcX6_threePass_126 (by decide) ?_
          obtain ⟨hz, hq⟩ := tw_gZ hq
          exact cw_zret hx hb hr hlocks hM hz hq hQQ dcX6_threePass_127
        · have hq := tw_it hq hc
          refine lv_iconst (v := 0) hx hb dcX6_threePass_50 (by decide) ?_
          obtain ⟨hz, hq⟩ := tw_gZ hq
          exact cw_zret hx hb hr hlocks hM hz hq hQQ dcX6_threePass_51
theorem dcX6_mayMeet_0 : decode cX6_mayMeet 0 = .ok (.aload_n 0, 1) := dw_at cX6_mayMeet_k0 (p := 0) rfl (by decide +kernel)
theorem dcX6_mayMeet_1 : decode cX6_mayMeet 1 = .ok (.getfield 39, 3) := dw_at cX6_mayMeet_k0 (p := 1) rfl (by decide +kernel)
theorem dcX6_mayMeet_4 : decode cX6_mayMeet 4 = .ok (.getfield 147, 3) := dw_at cX6_mayMeet_k0 (p := 4) rfl (by decide +kernel)
theorem dcX6_mayMeet_7 : decode cX6_mayMeet 7 = .ok (.iconst 2, 1) := dw_at cX6_mayMeet_k0 (p := 7) rfl (by decide +kernel)
theorem dcX6_mayMeet_8 : decode cX6_mayMeet 8 = .ok (.iload_n 1, 1) := dw_at cX6_mayMeet_k0 (p := 8) rfl (by decide +kernel)
theorem dcX6_mayMeet_9 : decode cX6_mayMeet 9 = .ok (.imul, 1) := dw_at cX6_mayMeet_k0 (p := 9) rfl (by decide +kernel)
theorem dcX6_mayMeet_10 : decode cX6_mayMeet 10 = .ok (.iaload, 1) := dw_at cX6_mayMeet_k0 (p := 10) rfl (by decide +kernel)
theorem dcX6_mayMeet_11 : decode cX6_mayMeet 11 = .ok (.istore_n 3, 1) := dw_at cX6_mayMeet_k0 (p := 11) rfl (by decide +kernel)
theorem dcX6_mayMeet_12 : decode cX6_mayMeet 12 = .ok (.aload_n 0, 1) := dw_at cX6_mayMeet_k0 (p := 12) rfl (by decide +kernel)
theorem dcX6_mayMeet_13 : decode cX6_mayMeet 13 = .ok (.getfield 39, 3) := dw_at cX6_mayMeet_k0 (p := 13) rfl (by decide +kernel)
theorem dcX6_mayMeet_16 : decode cX6_mayMeet 16 = .ok (.getfield 147, 3) := dw_at cX6_mayMeet_k0 (p := 16) rfl (by decide +kernel)
theorem dcX6_mayMeet_19 : decode cX6_mayMeet 19 = .ok (.iconst 2, 1) := dw_at cX6_mayMeet_k0 (p := 19) rfl (by decide +kernel)
theorem dcX6_mayMeet_20 : decode cX6_mayMeet 20 = .ok (.iload_n 1, 1) := dw_at cX6_mayMeet_k0 (p := 20) rfl (by decide +kernel)
theorem dcX6_mayMeet_21 : decode cX6_mayMeet 21 = .ok (.imul, 1) := dw_at cX6_mayMeet_k0 (p := 21) rfl (by decide +kernel)
theorem dcX6_mayMeet_22 : decode cX6_mayMeet 22 = .ok (.iconst 1, 1) := dw_at cX6_mayMeet_k0 (p := 22) rfl (by decide +kernel)
theorem dcX6_mayMeet_23 : decode cX6_mayMeet 23 = .ok (.iadd, 1) := dw_at cX6_mayMeet_k0 (p := 23) rfl (by decide +kernel)
theorem dcX6_mayMeet_24 : decode cX6_mayMeet 24 = .ok (.iaload, 1) := dw_at cX6_mayMeet_k1 (p := 0) rfl (by decide +kernel)
theorem dcX6_mayMeet_25 : decode cX6_mayMeet 25 = .ok (.istore 4, 2) := dw_at cX6_mayMeet_k1 (p := 1) rfl (by decide +kernel)
theorem dcX6_mayMeet_27 : decode cX6_mayMeet 27 = .ok (.aload_n 0, 1) := dw_at cX6_mayMeet_k1 (p := 3) rfl (by decide +kernel)
theorem dcX6_mayMeet_28 : decode cX6_mayMeet 28 = .ok (.getfield 39, 3) := dw_at cX6_mayMeet_k1 (p := 4) rfl (by decide +kernel)
theorem dcX6_mayMeet_31 : decode cX6_mayMeet 31 = .ok (.getfield 147, 3) := dw_at cX6_mayMeet_k1 (p := 7) rfl (by decide +kernel)
theorem dcX6_mayMeet_34 : decode cX6_mayMeet 34 = .ok (.iconst 2, 1) := dw_at cX6_mayMeet_k1 (p := 10) rfl (by decide +kernel)
theorem dcX6_mayMeet_35 : decode cX6_mayMeet 35 = .ok (.iload_n 2, 1) := dw_at cX6_mayMeet_k1 (p := 11) rfl (by decide +kernel)
theorem dcX6_mayMeet_36 : decode cX6_mayMeet 36 = .ok (.imul, 1) := dw_at cX6_mayMeet_k1 (p := 12) rfl (by decide +kernel)
theorem dcX6_mayMeet_37 : decode cX6_mayMeet 37 = .ok (.iaload, 1) := dw_at cX6_mayMeet_k1 (p := 13) rfl (by decide +kernel)
theorem dcX6_mayMeet_38 : decode cX6_mayMeet 38 = .ok (.istore 5, 2) := dw_at cX6_mayMeet_k1 (p := 14) rfl (by decide +kernel)
theorem dcX6_mayMeet_40 : decode cX6_mayMeet 40 = .ok (.aload_n 0, 1) := dw_at cX6_mayMeet_k1 (p := 16) rfl (by decide +kernel)
theorem dcX6_mayMeet_41 : decode cX6_mayMeet 41 = .ok (.getfield 39, 3) := dw_at cX6_mayMeet_k1 (p := 17) rfl (by decide +kernel)
theorem dcX6_mayMeet_44 : decode cX6_mayMeet 44 = .ok (.getfield 147, 3) := dw_at cX6_mayMeet_k1 (p := 20) rfl (by decide +kernel)
theorem dcX6_mayMeet_47 : decode cX6_mayMeet 47 = .ok (.iconst 2, 1) := dw_at cX6_mayMeet_k1 (p := 23) rfl (by decide +kernel)
theorem dcX6_mayMeet_48 : decode cX6_mayMeet 48 = .ok (.iload_n 2, 1) := dw_at cX6_mayMeet_k2 (p := 0) rfl (by decide +kernel)
theorem dcX6_mayMeet_49 : decode cX6_mayMeet 49 = .ok (.imul, 1) := dw_at cX6_mayMeet_k2 (p := 1) rfl (by decide +kernel)
theorem dcX6_mayMeet_50 : decode cX6_mayMeet 50 = .ok (.iconst 1, 1) := dw_at cX6_mayMeet_k2 (p := 2) rfl (by decide +kernel)
theorem dcX6_mayMeet_51 : decode cX6_mayMeet 51 = .ok (.iadd, 1) := dw_at cX6_mayMeet_k2 (p := 3) rfl (by decide +kernel)
theorem dcX6_mayMeet_52 : decode cX6_mayMeet 52 = .ok (.iaload, 1) := dw_at cX6_mayMeet_k2 (p := 4) rfl (by decide +kernel)
theorem dcX6_mayMeet_53 : decode cX6_mayMeet 53 = .ok (.istore 6, 2) := dw_at cX6_mayMeet_k2 (p := 5) rfl (by decide +kernel)
theorem dcX6_mayMeet_55 : decode cX6_mayMeet 55 = .ok (.aload_n 0, 1) := dw_at cX6_mayMeet_k2 (p := 7) rfl (by decide +kernel)
theorem dcX6_mayMeet_56 : decode cX6_mayMeet 56 = .ok (.getfield 29, 3) := dw_at cX6_mayMeet_k2 (p := 8) rfl (by decide +kernel)
theorem dcX6_mayMeet_59 : decode cX6_mayMeet 59 = .ok (.getfield 150, 3) := dw_at cX6_mayMeet_k2 (p := 11) rfl (by decide +kernel)
theorem dcX6_mayMeet_62 : decode cX6_mayMeet 62 = .ok (.iload_n 1, 1) := dw_at cX6_mayMeet_k2 (p := 14) rfl (by decide +kernel)
theorem dcX6_mayMeet_63 : decode cX6_mayMeet 63 = .ok (.iaload, 1) := dw_at cX6_mayMeet_k2 (p := 15) rfl (by decide +kernel)
theorem dcX6_mayMeet_64 : decode cX6_mayMeet 64 = .ok (.aload_n 0, 1) := dw_at cX6_mayMeet_k2 (p := 16) rfl (by decide +kernel)
theorem dcX6_mayMeet_65 : decode cX6_mayMeet 65 = .ok (.getfield 29, 3) := dw_at cX6_mayMeet_k2 (p := 17) rfl (by decide +kernel)
theorem dcX6_mayMeet_68 : decode cX6_mayMeet 68 = .ok (.getfield 150, 3) := dw_at cX6_mayMeet_k2 (p := 20) rfl (by decide +kernel)
theorem dcX6_mayMeet_71 : decode cX6_mayMeet 71 = .ok (.iload_n 2, 1) := dw_at cX6_mayMeet_k2 (p := 23) rfl (by decide +kernel)
theorem dcX6_mayMeet_72 : decode cX6_mayMeet 72 = .ok (.iaload, 1) := dw_at cX6_mayMeet_k3 (p := 0) rfl (by decide +kernel)
theorem dcX6_mayMeet_73 : decode cX6_mayMeet 73 = .ok (.if_icmp .ne 29, 3) := dw_at cX6_mayMeet_k3 (p := 1) rfl (by decide +kernel)
theorem dcX6_mayMeet_76 : decode cX6_mayMeet 76 = .ok (.iload_n 3, 1) := dw_at cX6_mayMeet_k3 (p := 4) rfl (by decide +kernel)
theorem dcX6_mayMeet_77 : decode cX6_mayMeet 77 = .ok (.iload 5, 2) := dw_at cX6_mayMeet_k3 (p := 5) rfl (by decide +kernel)
theorem dcX6_mayMeet_79 : decode cX6_mayMeet 79 = .ok (.if_icmp .eq 23, 3) := dw_at cX6_mayMeet_k3 (p := 7) rfl (by decide +kernel)
theorem dcX6_mayMeet_82 : decode cX6_mayMeet 82 = .ok (.iload_n 3, 1) := dw_at cX6_mayMeet_k3 (p := 10) rfl (by decide +kernel)
theorem dcX6_mayMeet_83 : decode cX6_mayMeet 83 = .ok (.iload 6, 2) := dw_at cX6_mayMeet_k3 (p := 11) rfl (by decide +kernel)
theorem dcX6_mayMeet_85 : decode cX6_mayMeet 85 = .ok (.if_icmp .eq 17, 3) := dw_at cX6_mayMeet_k3 (p := 13) rfl (by decide +kernel)
theorem dcX6_mayMeet_88 : decode cX6_mayMeet 88 = .ok (.iload 4, 2) := dw_at cX6_mayMeet_k3 (p := 16) rfl (by decide +kernel)
theorem dcX6_mayMeet_90 : decode cX6_mayMeet 90 = .ok (.iload 5, 2) := dw_at cX6_mayMeet_k3 (p := 18) rfl (by decide +kernel)
theorem dcX6_mayMeet_92 : decode cX6_mayMeet 92 = .ok (.if_icmp .eq 10, 3) := dw_at cX6_mayMeet_k3 (p := 20) rfl (by decide +kernel)
theorem dcX6_mayMeet_95 : decode cX6_mayMeet 95 = .ok (.iload 4, 2) := dw_at cX6_mayMeet_k3 (p := 23) rfl (by decide +kernel)
theorem dcX6_mayMeet_97 : decode cX6_mayMeet 97 = .ok (.iload 6, 2) := dw_at cX6_mayMeet_k4 (p := 0) rfl (by decide +kernel)
theorem dcX6_mayMeet_99 : decode cX6_mayMeet 99 = .ok (.if_icmp .ne 7, 3) := dw_at cX6_mayMeet_k4 (p := 2) rfl (by decide +kernel)
theorem dcX6_mayMeet_102 : decode cX6_mayMeet 102 = .ok (.iconst 1, 1) := dw_at cX6_mayMeet_k4 (p := 5) rfl (by decide +kernel)
theorem dcX6_mayMeet_103 : decode cX6_mayMeet 103 = .ok (.goto 4, 3) := dw_at cX6_mayMeet_k4 (p := 6) rfl (by decide +kernel)
theorem dcX6_mayMeet_106 : decode cX6_mayMeet 106 = .ok (.iconst 0, 1) := dw_at cX6_mayMeet_k4 (p := 9) rfl (by decide +kernel)
theorem dcX6_mayMeet_107 : decode cX6_mayMeet 107 = .ok (.ireturn, 1) := dw_at cX6_mayMeet_k4 (p := 10) rfl (by decide +kernel)
def cm_X6_mayMeet_0 (vl : Nat → Nat) (K : Nat) (go : Nat → Int32 → Int32 → Int32 → Int32 → Int32 → Int32 → Nat → ow_MS → Option (Int32 × ow_MS)) (x1 : Int32) (x2 : Int32) (x3 : Int32) (x4 : Int32) (x5 : Int32) (x6 : Int32) (r0 : Nat) (z : ow_MS) : Option (Int32 × ow_MS) :=
 crI (cX vl) z ((r0 + 6000) + 1) (2 * x1) fun v1 => crI (cX vl) z ((r0 + 6000) + 1) ((2 * x1) + 1) fun v2 => crI (cX vl) z ((r0 + 6000) + 1) (2 * x2) fun v3 => crI (cX vl) z ((r0 + 6000) + 1) ((2 * x2) + 1) fun v4 => crI (cX vl) z ((r0 + 4000) + 6) x1 fun v5 => crI (cX vl) z ((r0 + 4000) + 6) x2 fun v6 => (if v5 = v6 then (if v1 = v3 then go 1 x1 x2 v1 v2 v3 v4 r0 z
 else (if v1 = v4 then go 1 x1 x2 v1 v2 v3 v4 r0 z
 else (if v2 = v3 then go 1 x1 x2 v1 v2 v3 v4 r0 z
 else (if v2 = v4 then go 1 x1 x2 v1 v2 v3 v4 r0 z
 else okZ 0 (some (0, z))))))
 else go 1 x1 x2 v1 v2 v3 v4 r0 z)
def cm_X6_mayMeet_1 (vl : Nat → Nat) (K : Nat) (go : Nat → Int32 → Int32 → Int32 → Int32 → Int32 → Int32 → Nat → ow_MS → Option (Int32 × ow_MS)) (x1 : Int32) (x2 : Int32) (x3 : Int32) (x4 : Int32) (x5 : Int32) (x6 : Int32) (r0 : Nat) (z : ow_MS) : Option (Int32 × ow_MS) :=
 okZ 1 (some (1, z))
def cb_X6_mayMeet (vl : Nat → Nat) (K : Nat) (go : Nat → Int32 → Int32 → Int32 → Int32 → Int32 → Int32 → Nat → ow_MS → Option (Int32 × ow_MS)) (L : Nat) (x1 : Int32) (x2 : Int32) (x3 : Int32) (x4 : Int32) (x5 : Int32) (x6 : Int32) (r0 : Nat) (z : ow_MS) : Option (Int32 × ow_MS) := match L with
  | 0 => cm_X6_mayMeet_0 vl K go x1 x2 x3 x4 x5 x6 r0 z
  | 1 => cm_X6_mayMeet_1 vl K go x1 x2 x3 x4 x5 x6 r0 z
  | _ => none
def c_X6_mayMeet (vl : Nat → Nat) (K : Nat) : Nat → Nat → Int32 → Int32 → Int32 → Int32 → Int32 → Int32 → Nat → ow_MS → Option (Int32 × ow_MS)
  | 0 => fun _ _ _ _ _ _ _ _ _ => none
  | k + 1 => cb_X6_mayMeet vl K (c_X6_mayMeet vl K k)
def ce_X6_mayMeet (vl : Nat → Nat) (K : Nat) (r0 : Nat) (x1 : Int32) (x2 : Int32) (z : ow_MS) : Option (Int32 × ow_MS) := c_X6_mayMeet vl K K 0 x1 x2 0 0 0 0 r0 z
abbrev wc_X6_mayMeet : List Cond := .code yX6_mayMeet cX6_mayMeet 7 (some .boolean) :: wC
theorem cdd_X6_mayMeet : yX6_mayMeet.cls = RX6 ∧ yX6_mayMeet.cls ≠ "java/lang/invoke/MethodHandle" ∧ yX6_mayMeet.cls ≠ "java/lang/invoke/VarHandle" ∧ (parseMethodDescriptor yX6_mayMeet.desc).map (fun d => d.parameters.length) = some 2 := by decide +kernel
set_option maxHeartbeats 4000000 in
set_option maxRecDepth 100000 in
theorem kc_X6_mayMeet (l : Launch) (D : va_G) (q : Nat → ClassId) (vl u : Nat → Nat) (hU0 : tw_inj (cX vl) u) (K : Nat) (r0 : Nat) (x1 : Int32) (x2 : Int32) (hr0 : cw_X6 r0) (z z1 : ow_MS) (r : Int32) (hq : ce_X6_mayMeet vl K r0 x1 x2 z = some (r, z1)) : Met l yX6_mayMeet wc_X6_mayMeet ({ frames := 0, cells := 0, slots := 0, locals := 0 } : Room) (va_Pc [.ref (u r0), .int x1, .int x2] (cw_pre D q vl u z)) (va_Qi (fun x (_ : Unit) => x = r) (fun _ t => va_P D vwCl (uw (cX vl) q u z1) t.heap) (tw_A (cX vl) u)) 0 0 (tw_A (cX vl) u) := by
  refine Met.ofW (cc := cX6_mayMeet) (maxL := 7) (ret := (some .boolean)) (by decide) rfl ?_
  intro p e s m args below meth c s₁ B hml hv
  obtain ⟨rfl, hP, hK⟩ := hv
  have hx := B.exec
  have hb := B.bytes
  have hr := B.returns
  have hts := atoms_spec (ws := wc_X6_mayMeet) B.pre
  have hT : ∀ w ∈ wC, w.before ([.ref (u r0), .int x1, .int x2] : List Value).toArray s = true := fun w h => hts w (List.mem_cons_of_mem _ h)
  have hown : s.vm.findClass RX6 = some m.cls := findClass_of_methodNamed B.named
  have hlocks := B.notSynchronized
  have hU : uw_inj (cX vl) u (tw_A (cX vl) u) := ⟨hU0, fun h hh => ⟨h, hh, rfl⟩⟩
  have hM : uw_M D vwCl (cX vl) q (tw_A (cX vl) u) s.heap u z s.heap [] := ⟨hP, va_S.rf⟩
  have hl := lv_entry ([.ref (u r0), .int x1, .int x2]) (n := 7) (Nat.le_of_ble_eq_true rfl)
  rw [lg_entry_eq]
  generalize (lg_sl ([.ref (u r0), .int x1, .int x2]) ++ List.replicate (7 - (lg_sl ([.ref (u r0), .int x1, .int x2])).length) Slot.unset).toArray = ls at hl ⊢
  have hl : lv_has ls 7 [(0, .ref (u r0)), (1, .int x1), (2, .int x2)] := hl
  refine ow_named (fun QQ hQQ => ?_)
  generalize ([.ref (u r0), .int x1, .int x2] : List Value).toArray = args at hts hT hQQ ⊢
  have key : ∀ k : Nat, (∀ (x1 : Int32) (x2 : Int32) (x3 : Int32) (x4 : Int32) (x5 : Int32) (x6 : Int32) (r0 : Nat) (z : ow_MS) (H : Heap) (locs : List Loc) (ls : Array Slot), cw_X6 r0 → uw_M D vwCl (cX vl) q (tw_A (cX vl) u) s.heap u z H locs → lv_has ls 7 [(0, .ref (u r0)), (1, .int x1), (2, .int x2)] → c_X6_mayMeet vl K k 0 x1 x2 x3 x4 x5 x6 r0 z = some (r, z1) → W p l e ({ frames := 0, cells := 0, slots := 0, locals := 0 } : Room) s m args below meth c H locs 0 0 QQ (F0 m 0 ls [])) ∧ (∀ (x1 : Int32) (x2 : Int32) (x3 : Int32) (x4 : Int32) (x5 : Int32) (x6 : Int32) (r0 : Nat) (z : ow_MS) (H : Heap) (locs : List Loc) (ls : Array Slot), cw_X6 r0 → uw_M D vwCl (cX vl) q (tw_A (cX vl) u) s.heap u z H locs → lv_has ls 7 [(0, .ref (u r0)), (1, .int x1), (2, .int x2), (3, .int x3), (4, .int x4), (5, .int x5), (6, .int x6)] → c_X6_mayMeet vl K k 1 x1 x2 x3 x4 x5 x6 r0 z = some (r, z1) → W p l e ({ frames := 0, cells := 0, slots := 0, locals := 0 } : Room) s m args below meth c H locs 0 0 QQ (F0 m 102 ls [])) := by
    intro k
    induction k with
    | zero => exact ⟨fun _ _ _ _ _ _ _ _ _ _ _ _ _ _ hq => cw_no hq, fun _ _ _ _ _ _ _ _ _ _ _ _ _ _ hq => cw_no hq⟩
    | succ k ih =>
      obtain ⟨ih_0, ih_1⟩ := ih
      refine ⟨?_, ?_⟩
      · intro x1 x2 x3 x4 x5 x6 r0 z H locs ls hr0 hM hl hq
        have hq : cm_X6_mayMeet_0 vl K (c_X6_mayMeet vl K k) x1 x2 x3 x4 x5 x6 r0 z = some (r, z1) := hq
        unfold cm_X6_mayMeet_0 at hq
        refine lv_aload_n hx hb dcX6_mayMeet_0 rfl (lv_at hl 0 rfl) ?_
        refine vgX6_39 hx hb hT hown hK hM hr0 dcX6_mayMeet_1 ?_
        refine vgX6_147 hx hb hT hown hK hM (cs_X6_5 hr0) dcX6_mayMeet_4 ?_
        refine lv_iconst (v := 2) hx hb dcX6_mayMeet_7 (by decide) ?_
        refine lv_iload_n hx hb dcX6_mayMeet_8 rfl (lv_at hl 1 rfl) ?_
        refine lv_imul hx hb dcX6_mayMeet_9 ?_
        refine uw_iald cX_ok hx hb hK hM (cr_X4_0 (cs_X6_5 hr0)) hq dcX6_mayMeet_10 (fun v1 hq => ?_)
        refine lv_istore_n (lv' := [(3, .int v1), (0, .ref (u r0)), (1, .int x1), (2, .int x2)]) hx hb dcX6_mayMeet_11 rfl hl (by decide) rfl (fun ls hl => ?_)
        refine lv_aload_n hx hb dcX6_mayMeet_12 rfl (lv_at hl 1 rfl) ?_
        refine vgX6_39 hx hb hT hown hK hM hr0 dcX6_mayMeet_13 ?_
        refine vgX6_147 hx hb hT hown hK hM (cs_X6_5 hr0) dcX6_mayMeet_16 ?_
        refine lv_iconst (v := 2) hx hb dcX6_mayMeet_19 (by decide) ?_
        refine lv_iload_n hx hb dcX6_mayMeet_20 rfl (lv_at hl 2 rfl) ?_
        refine lv_imul hx hb dcX6_mayMeet_21 ?_
        refine lv_iconst (v := 1) hx hb dcX6_mayMeet_22 (by decide) ?_
        refine lv_iadd hx hb dcX6_mayMeet_23 ?_
        refine uw_iald cX_ok hx hb hK hM (cr_X4_0 (cs_X6_5 hr0)) hq dcX6_mayMeet_24 (fun v2 hq => ?_)
        refine lv_istore (lv' := [(4, .int v2), (3, .int v1), (0, .ref (u r0)), (1, .int x1), (2, .int x2)]) hx hb dcX6_mayMeet_25 hl (by decide) rfl (fun ls hl => ?_)
        refine lv_aload_n hx hb dcX6_mayMeet_27 rfl (lv_at hl 2 rfl) ?_
        refine vgX6_39 hx hb hT hown hK hM hr0 dcX6_mayMeet_28 ?_
        refine vgX6_147 hx hb hT hown hK hM (cs_X6_5 hr0) dcX6_mayMeet_31 ?_
        refine lv_iconst (v := 2) hx hb dcX6_mayMeet_34 (by decide) ?_
        refine lv_iload_n hx hb dcX6_mayMeet_35 rfl (lv_at hl 4 rfl) ?_
        refine lv_imul hx hb dcX6_mayMeet_36 ?_
        refine uw_iald cX_ok hx hb hK hM (cr_X4_0 (cs_X6_5 hr0)) hq dcX6_mayMeet_37 (fun v3 hq => ?_)
        refine lv_istore (lv' := [(5, .int v3), (4, .int v2), (3, .int v1), (0, .ref (u r0)), (1, .int x1), (2, .int x2)]) hx hb dcX6_mayMeet_38 hl (by decide) rfl (fun ls hl => ?_)
        refine lv_aload_n hx hb dcX6_mayMeet_40 rfl (lv_at hl 3 rfl) ?_
        refine vgX6_39 hx hb hT hown hK hM hr0 dcX6_mayMeet_41 ?_
        refine vgX6_147 hx hb hT hown hK hM (cs_X6_5 hr0) dcX6_mayMeet_44 ?_
        refine lv_iconst (v := 2) hx hb dcX6_mayMeet_47 (by decide) ?_
        refine lv_iload_n hx hb dcX6_mayMeet_48 rfl (lv_at hl 5 rfl) ?_
        refine lv_imul hx hb dcX6_mayMeet_49 ?_
        refine lv_iconst (v := 1) hx hb dcX6_mayMeet_50 (by decide) ?_
        refine lv_iadd hx hb dcX6_mayMeet_51 ?_
        refine uw_iald cX_ok hx hb hK hM (cr_X4_0 (cs_X6_5 hr0)) hq dcX6_mayMeet_52 (fun v4 hq => ?_)
        refine lv_istore (lv' := [(6, .int v4), (5, .int v3), (4, .int v2), (3, .int v1), (0, .ref (u r0)), (1, .int x1), (2, .int x2)]) hx hb dcX6_mayMeet_53 hl (by decide) rfl (fun ls hl => ?_)
        refine lv_aload_n hx hb dcX6_mayMeet_55 rfl (lv_at hl 4 rfl) ?_
        refine vgX6_29 hx hb hT hown hK hM hr0 dcX6_mayMeet_56 ?_
        refine vgX6_150 hx hb hT hown hK hM (cs_X6_3 hr0) dcX6_mayMeet_59 ?_
        refine lv_iload_n hx hb dcX6_mayMeet_62 rfl (lv_at hl 5 rfl) ?_
        refine uw_iald cX_ok hx hb hK hM (cr_X7_5 (cs_X6_3 hr0)) hq dcX6_mayMeet_63 (fun v5 hq => ?_)
        refine lv_aload_n hx hb dcX6_mayMeet_64 rfl (lv_at hl 4 rfl) ?_
        refine vgX6_29 hx hb hT hown hK hM hr0 dcX6_mayMeet_65 ?_
        refine vgX6_150 hx hb hT hown hK hM (cs_X6_3 hr0) dcX6_mayMeet_68 ?_
        refine lv_iload_n hx hb dcX6_mayMeet_71 rfl (lv_at hl 6 rfl) ?_
        refine uw_iald cX_ok hx hb hK hM (cr_X7_5 (cs_X6_3 hr0)) hq dcX6_mayMeet_72 (fun v6 hq => ?_)
        refine lv_icmp_ne (tgt := 102) hx hb dcX6_mayMeet_73 (by decide) (fun hc => ?_) (fun hc => ?_)
        · have hq := tw_if hq hc
          exact ih_1 x1 x2 v1 v2 v3 v4 r0 z H locs ls hr0 hM (lv_sub hl [4, 5, 6, 3, 2, 1, 0] rfl) hq
        · have hq := tw_it hq hc
          refine lv_iload_n hx hb dcX6_mayMeet_76 rfl (lv_at hl 3 rfl) ?_
          refine lv_iload hx hb dcX6_mayMeet_77 (lv_at hl 1 rfl) ?_
          refine lv_icmp_eq (tgt := 102) hx hb dcX6_mayMeet_79 (by decide) (fun hc => ?_) (fun hc => ?_)
          · have hq := tw_it hq hc
            exact ih_1 x1 x2 v1 v2 v3 v4 r0 z H locs ls hr0 hM (lv_sub hl [4, 5, 6, 3, 2, 1, 0] rfl) hq
          · have hq := tw_if hq hc
            refine lv_iload_n hx hb dcX6_mayMeet_82 rfl (lv_at hl 3 rfl) ?_
            refine lv_iload hx hb dcX6_mayMeet_83 (lv_at hl 0 rfl) ?_
            refine lv_icmp_eq (tgt := 102) hx hb dcX6_mayMeet_85 (by decide) (fun hc => ?_) (fun hc => ?_)
            · have hq := tw_it hq hc
              exact ih_1 x1 x2 v1 v2 v3 v4 r0 z H locs ls hr0 hM (lv_sub hl [4, 5, 6, 3, 2, 1, 0] rfl) hq
            · have hq := tw_if hq hc
              refine lv_iload hx hb dcX6_mayMeet_88 (lv_at hl 2 rfl) ?_
              refine lv_iload hx hb dcX6_mayMeet_90 (lv_at hl 1 rfl) ?_
              refine lv_icmp_eq (tgt := 102) hx hb dcX6_mayMeet_92 (by decide) (fun hc => ?_) (fun hc => ?_)
              · have hq := tw_it hq hc
                exact ih_1 x1 x2 v1 v2 v3 v4 r0 z H locs ls hr0 hM (lv_sub hl [4, 5, 6, 3, 2, 1, 0] rfl) hq
              · have hq := tw_if hq hc
                refine lv_iload hx hb dcX6_mayMeet_95 (lv_at hl 2 rfl) ?_
                refine lv_iload hx hb dcX6_mayMeet_97 (lv_at hl 0 rfl) ?_
                refine lv_icmp_ne (tgt := 106) hx hb dcX6_mayMeet_99 (by decide) (fun hc => ?_) (fun hc => ?_)
                · have hq := tw_if hq hc
                  refine lv_iconst (v := 0) hx hb dcX6_mayMeet_106 (by decide) ?_
                  obtain ⟨hz, hq⟩ := tw_gZ hq
                  exact cw_zret hx hb hr hlocks hM hz hq hQQ dcX6_mayMeet_107
                · have hq := tw_it hq hc
                  exact ih_1 x1 x2 v1 v2 v3 v4 r0 z H locs ls hr0 hM (lv_sub hl [4, 5, 6, 3, 2, 1, 0] rfl) hq
      · intro x1 x2 x3 x4 x5 x6 r0 z H locs ls hr0 hM hl hq
        have hq : cm_X6_mayMeet_1 vl K (c_X6_mayMeet vl K k) x1 x2 x3 x4 x5 x6 r0 z = some (r, z1) := hq
        unfold cm_X6_mayMeet_1 at hq
        refine lv_iconst (v := 1) hx hb dcX6_mayMeet_102 (by decide) ?_
        refine lv_goto (tgt := 107) hx hb dcX6_mayMeet_103 (by decide) ?_
        obtain ⟨hz, hq⟩ := tw_gZ hq
        exact cw_zret hx hb hr hlocks hM hz hq hQQ dcX6_mayMeet_107
  exact (key K).1 x1 x2 0 0 0 0 r0 z s.heap [] ls hr0 hM (lv_sub hl [0, 1, 2] rfl) hq
theorem dcX6_twoCome_0 : decode cX6_twoCome 0 = .ok (.iconst 2, 1) := dw_at cX6_twoCome_k0 (p := 0) rfl (by decide +kernel)
theorem dcX6_twoCome_1 : decode cX6_twoCome 1 = .ok (.aload_n 0, 1) := dw_at cX6_twoCome_k0 (p := 1) rfl (by decide +kernel)
theorem dcX6_twoCome_2 : decode cX6_twoCome 2 = .ok (.getfield 29, 3) := dw_at cX6_twoCome_k0 (p := 2) rfl (by decide +kernel)
theorem dcX6_twoCome_5 : decode cX6_twoCome 5 = .ok (.getfield 81, 3) := dw_at cX6_twoCome_k0 (p := 5) rfl (by decide +kernel)
theorem dcX6_twoCome_8 : decode cX6_twoCome 8 = .ok (.imul, 1) := dw_at cX6_twoCome_k0 (p := 8) rfl (by decide +kernel)
theorem dcX6_twoCome_9 : decode cX6_twoCome 9 = .ok (.istore 4, 2) := dw_at cX6_twoCome_k0 (p := 9) rfl (by decide +kernel)
theorem dcX6_twoCome_11 : decode cX6_twoCome 11 = .ok (.iload 4, 2) := dw_at cX6_twoCome_k0 (p := 11) rfl (by decide +kernel)
theorem dcX6_twoCome_13 : decode cX6_twoCome 13 = .ok (.iconst 2, 1) := dw_at cX6_twoCome_k0 (p := 13) rfl (by decide +kernel)
theorem dcX6_twoCome_14 : decode cX6_twoCome 14 = .ok (.iadd, 1) := dw_at cX6_twoCome_k0 (p := 14) rfl (by decide +kernel)
theorem dcX6_twoCome_15 : decode cX6_twoCome 15 = .ok (.istore 5, 2) := dw_at cX6_twoCome_k0 (p := 15) rfl (by decide +kernel)
theorem dcX6_twoCome_17 : decode cX6_twoCome 17 = .ok (.iload_n 1, 1) := dw_at cX6_twoCome_k0 (p := 17) rfl (by decide +kernel)
theorem dcX6_twoCome_18 : decode cX6_twoCome 18 = .ok (.iload 4, 2) := dw_at cX6_twoCome_k0 (p := 18) rfl (by decide +kernel)
theorem dcX6_twoCome_20 : decode cX6_twoCome 20 = .ok (.if_icmp .ne 7, 3) := dw_at cX6_twoCome_k0 (p := 20) rfl (by decide +kernel)
theorem dcX6_twoCome_23 : decode cX6_twoCome 23 = .ok (.iconst 1, 1) := dw_at cX6_twoCome_k0 (p := 23) rfl (by decide +kernel)
theorem dcX6_twoCome_24 : decode cX6_twoCome 24 = .ok (.goto 4, 3) := dw_at cX6_twoCome_k1 (p := 0) rfl (by decide +kernel)
theorem dcX6_twoCome_27 : decode cX6_twoCome 27 = .ok (.iconst 0, 1) := dw_at cX6_twoCome_k1 (p := 3) rfl (by decide +kernel)
theorem dcX6_twoCome_28 : decode cX6_twoCome 28 = .ok (.iload_n 2, 1) := dw_at cX6_twoCome_k1 (p := 4) rfl (by decide +kernel)
theorem dcX6_twoCome_29 : decode cX6_twoCome 29 = .ok (.iload 4, 2) := dw_at cX6_twoCome_k1 (p := 5) rfl (by decide +kernel)
theorem dcX6_twoCome_31 : decode cX6_twoCome 31 = .ok (.iconst 1, 1) := dw_at cX6_twoCome_k1 (p := 7) rfl (by decide +kernel)
theorem dcX6_twoCome_32 : decode cX6_twoCome 32 = .ok (.iadd, 1) := dw_at cX6_twoCome_k1 (p := 8) rfl (by decide +kernel)
theorem dcX6_twoCome_33 : decode cX6_twoCome 33 = .ok (.if_icmp .ne 7, 3) := dw_at cX6_twoCome_k1 (p := 9) rfl (by decide +kernel)
theorem dcX6_twoCome_36 : decode cX6_twoCome 36 = .ok (.iconst 1, 1) := dw_at cX6_twoCome_k1 (p := 12) rfl (by decide +kernel)
theorem dcX6_twoCome_37 : decode cX6_twoCome 37 = .ok (.goto 4, 3) := dw_at cX6_twoCome_k1 (p := 13) rfl (by decide +kernel)
theorem dcX6_twoCome_40 : decode cX6_twoCome 40 = .ok (.iconst 0, 1) := dw_at cX6_twoCome_k1 (p := 16) rfl (by decide +kernel)
theorem dcX6_twoCome_41 : decode cX6_twoCome 41 = .ok (.iadd, 1) := dw_at cX6_twoCome_k1 (p := 17) rfl (by decide +kernel)
theorem dcX6_twoCome_42 : decode cX6_twoCome 42 = .ok (.istore 6, 2) := dw_at cX6_twoCome_k1 (p := 18) rfl (by decide +kernel)
theorem dcX6_twoCome_44 : decode cX6_twoCome 44 = .ok (.iload 6, 2) := dw_at cX6_twoCome_k1 (p := 20) rfl (by decide +kernel)
theorem dcX6_twoCome_46 : decode cX6_twoCome 46 = .ok (.aload_n 0, 1) := dw_at cX6_twoCome_k1 (p := 22) rfl (by decide +kernel)
theorem dcX6_twoCome_47 : decode cX6_twoCome 47 = .ok (.getfield 29, 3) := dw_at cX6_twoCome_k1 (p := 23) rfl (by decide +kernel)
theorem dcX6_twoCome_50 : decode cX6_twoCome 50 = .ok (.getfield 120, 3) := dw_at cX6_twoCome_k2 (p := 0) rfl (by decide +kernel)
theorem dcX6_twoCome_53 : decode cX6_twoCome 53 = .ok (.if_icmp .gt 24, 3) := dw_at cX6_twoCome_k2 (p := 3) rfl (by decide +kernel)
theorem dcX6_twoCome_56 : decode cX6_twoCome 56 = .ok (.iload_n 1, 1) := dw_at cX6_twoCome_k2 (p := 6) rfl (by decide +kernel)
theorem dcX6_twoCome_57 : decode cX6_twoCome 57 = .ok (.iload 4, 2) := dw_at cX6_twoCome_k2 (p := 7) rfl (by decide +kernel)
theorem dcX6_twoCome_59 : decode cX6_twoCome 59 = .ok (.if_icmp .ge 20, 3) := dw_at cX6_twoCome_k2 (p := 9) rfl (by decide +kernel)
theorem dcX6_twoCome_62 : decode cX6_twoCome 62 = .ok (.iload_n 2, 1) := dw_at cX6_twoCome_k2 (p := 12) rfl (by decide +kernel)
theorem dcX6_twoCome_63 : decode cX6_twoCome 63 = .ok (.iload 4, 2) := dw_at cX6_twoCome_k2 (p := 13) rfl (by decide +kernel)
theorem dcX6_twoCome_65 : decode cX6_twoCome 65 = .ok (.if_icmp .ge 14, 3) := dw_at cX6_twoCome_k2 (p := 15) rfl (by decide +kernel)
theorem dcX6_twoCome_68 : decode cX6_twoCome 68 = .ok (.aload_n 0, 1) := dw_at cX6_twoCome_k2 (p := 18) rfl (by decide +kernel)
theorem dcX6_twoCome_69 : decode cX6_twoCome 69 = .ok (.iload_n 1, 1) := dw_at cX6_twoCome_k2 (p := 19) rfl (by decide +kernel)
theorem dcX6_twoCome_70 : decode cX6_twoCome 70 = .ok (.iload_n 2, 1) := dw_at cX6_twoCome_k2 (p := 20) rfl (by decide +kernel)
theorem dcX6_twoCome_71 : decode cX6_twoCome 71 = .ok (.invokevirtual 140, 3) := dw_at cX6_twoCome_k2 (p := 21) rfl (by decide +kernel)
theorem dcX6_twoCome_74 : decode cX6_twoCome 74 = .ok (.ifCond .ne 5, 3) := dw_at cX6_twoCome_k3 (p := 0) rfl (by decide +kernel)
theorem dcX6_twoCome_77 : decode cX6_twoCome 77 = .ok (.iconst 0, 1) := dw_at cX6_twoCome_k3 (p := 3) rfl (by decide +kernel)
theorem dcX6_twoCome_78 : decode cX6_twoCome 78 = .ok (.ireturn, 1) := dw_at cX6_twoCome_k3 (p := 4) rfl (by decide +kernel)
theorem dcX6_twoCome_79 : decode cX6_twoCome 79 = .ok (.aload_n 0, 1) := dw_at cX6_twoCome_k3 (p := 5) rfl (by decide +kernel)
theorem dcX6_twoCome_80 : decode cX6_twoCome 80 = .ok (.getfield 33, 3) := dw_at cX6_twoCome_k3 (p := 6) rfl (by decide +kernel)
theorem dcX6_twoCome_83 : decode cX6_twoCome 83 = .ok (.aload_n 0, 1) := dw_at cX6_twoCome_k3 (p := 9) rfl (by decide +kernel)
theorem dcX6_twoCome_84 : decode cX6_twoCome 84 = .ok (.getfield 29, 3) := dw_at cX6_twoCome_k3 (p := 10) rfl (by decide +kernel)
theorem dcX6_twoCome_87 : decode cX6_twoCome 87 = .ok (.invokevirtual 106, 3) := dw_at cX6_twoCome_k3 (p := 13) rfl (by decide +kernel)
theorem dcX6_twoCome_90 : decode cX6_twoCome 90 = .ok (.aload_n 0, 1) := dw_at cX6_twoCome_k3 (p := 16) rfl (by decide +kernel)
theorem dcX6_twoCome_91 : decode cX6_twoCome 91 = .ok (.getfield 33, 3) := dw_at cX6_twoCome_k3 (p := 17) rfl (by decide +kernel)
theorem dcX6_twoCome_94 : decode cX6_twoCome 94 = .ok (.dup, 1) := dw_at cX6_twoCome_k3 (p := 20) rfl (by decide +kernel)
theorem dcX6_twoCome_95 : decode cX6_twoCome 95 = .ok (.getfield 81, 3) := dw_at cX6_twoCome_k3 (p := 21) rfl (by decide +kernel)
theorem dcX6_twoCome_98 : decode cX6_twoCome 98 = .ok (.iconst 2, 1) := dw_at cX6_twoCome_k4 (p := 0) rfl (by decide +kernel)
theorem dcX6_twoCome_99 : decode cX6_twoCome 99 = .ok (.iadd, 1) := dw_at cX6_twoCome_k4 (p := 1) rfl (by decide +kernel)
theorem dcX6_twoCome_100 : decode cX6_twoCome 100 = .ok (.putfield 81, 3) := dw_at cX6_twoCome_k4 (p := 2) rfl (by decide +kernel)
theorem dcX6_twoCome_103 : decode cX6_twoCome 103 = .ok (.aload_n 0, 1) := dw_at cX6_twoCome_k4 (p := 5) rfl (by decide +kernel)
theorem dcX6_twoCome_104 : decode cX6_twoCome 104 = .ok (.getfield 33, 3) := dw_at cX6_twoCome_k4 (p := 6) rfl (by decide +kernel)
theorem dcX6_twoCome_107 : decode cX6_twoCome 107 = .ok (.getfield 123, 3) := dw_at cX6_twoCome_k4 (p := 9) rfl (by decide +kernel)
theorem dcX6_twoCome_110 : decode cX6_twoCome 110 = .ok (.aload_n 0, 1) := dw_at cX6_twoCome_k4 (p := 12) rfl (by decide +kernel)
theorem dcX6_twoCome_111 : decode cX6_twoCome 111 = .ok (.getfield 29, 3) := dw_at cX6_twoCome_k4 (p := 13) rfl (by decide +kernel)
theorem dcX6_twoCome_114 : decode cX6_twoCome 114 = .ok (.getfield 81, 3) := dw_at cX6_twoCome_k4 (p := 16) rfl (by decide +kernel)
theorem dcX6_twoCome_117 : decode cX6_twoCome 117 = .ok (.iload_n 3, 1) := dw_at cX6_twoCome_k4 (p := 19) rfl (by decide +kernel)
theorem dcX6_twoCome_118 : decode cX6_twoCome 118 = .ok (.iconst 1, 1) := dw_at cX6_twoCome_k4 (p := 20) rfl (by decide +kernel)
theorem dcX6_twoCome_119 : decode cX6_twoCome 119 = .ok (.iand, 1) := dw_at cX6_twoCome_k4 (p := 21) rfl (by decide +kernel)
theorem dcX6_twoCome_120 : decode cX6_twoCome 120 = .ok (.ifCond .ne 7, 3) := dw_at cX6_twoCome_k4 (p := 22) rfl (by decide +kernel)
theorem dcX6_twoCome_123 : decode cX6_twoCome 123 = .ok (.iconst 1, 1) := dw_at cX6_twoCome_k5 (p := 0) rfl (by decide +kernel)
theorem dcX6_twoCome_124 : decode cX6_twoCome 124 = .ok (.goto 4, 3) := dw_at cX6_twoCome_k5 (p := 1) rfl (by decide +kernel)
theorem dcX6_twoCome_127 : decode cX6_twoCome 127 = .ok (.iconst (-1), 1) := dw_at cX6_twoCome_k5 (p := 4) rfl (by decide +kernel)
theorem dcX6_twoCome_128 : decode cX6_twoCome 128 = .ok (.iastore, 1) := dw_at cX6_twoCome_k5 (p := 5) rfl (by decide +kernel)
theorem dcX6_twoCome_129 : decode cX6_twoCome 129 = .ok (.aload_n 0, 1) := dw_at cX6_twoCome_k5 (p := 6) rfl (by decide +kernel)
theorem dcX6_twoCome_130 : decode cX6_twoCome 130 = .ok (.getfield 33, 3) := dw_at cX6_twoCome_k5 (p := 7) rfl (by decide +kernel)
theorem dcX6_twoCome_133 : decode cX6_twoCome 133 = .ok (.getfield 123, 3) := dw_at cX6_twoCome_k5 (p := 10) rfl (by decide +kernel)
theorem dcX6_twoCome_136 : decode cX6_twoCome 136 = .ok (.aload_n 0, 1) := dw_at cX6_twoCome_k5 (p := 13) rfl (by decide +kernel)
theorem dcX6_twoCome_137 : decode cX6_twoCome 137 = .ok (.getfield 29, 3) := dw_at cX6_twoCome_k5 (p := 14) rfl (by decide +kernel)
theorem dcX6_twoCome_140 : decode cX6_twoCome 140 = .ok (.getfield 81, 3) := dw_at cX6_twoCome_k5 (p := 17) rfl (by decide +kernel)
theorem dcX6_twoCome_143 : decode cX6_twoCome 143 = .ok (.iconst 1, 1) := dw_at cX6_twoCome_k5 (p := 20) rfl (by decide +kernel)
theorem dcX6_twoCome_144 : decode cX6_twoCome 144 = .ok (.iadd, 1) := dw_at cX6_twoCome_k5 (p := 21) rfl (by decide +kernel)
theorem dcX6_twoCome_145 : decode cX6_twoCome 145 = .ok (.iload_n 3, 1) := dw_at cX6_twoCome_k5 (p := 22) rfl (by decide +kernel)
theorem dcX6_twoCome_146 : decode cX6_twoCome 146 = .ok (.iconst 1, 1) := dw_at cX6_twoCome_k5 (p := 23) rfl (by decide +kernel)
theorem dcX6_twoCome_147 : decode cX6_twoCome 147 = .ok (.iand, 1) := dw_at cX6_twoCome_k6 (p := 0) rfl (by decide +kernel)
theorem dcX6_twoCome_148 : decode cX6_twoCome 148 = .ok (.ifCond .ne 7, 3) := dw_at cX6_twoCome_k6 (p := 1) rfl (by decide +kernel)
theorem dcX6_twoCome_151 : decode cX6_twoCome 151 = .ok (.iconst (-1), 1) := dw_at cX6_twoCome_k6 (p := 4) rfl (by decide +kernel)
theorem dcX6_twoCome_152 : decode cX6_twoCome 152 = .ok (.goto 4, 3) := dw_at cX6_twoCome_k6 (p := 5) rfl (by decide +kernel)
theorem dcX6_twoCome_155 : decode cX6_twoCome 155 = .ok (.iconst 1, 1) := dw_at cX6_twoCome_k6 (p := 8) rfl (by decide +kernel)
theorem dcX6_twoCome_156 : decode cX6_twoCome 156 = .ok (.iastore, 1) := dw_at cX6_twoCome_k6 (p := 9) rfl (by decide +kernel)
theorem dcX6_twoCome_157 : decode cX6_twoCome 157 = .ok (.aload_n 0, 1) := dw_at cX6_twoCome_k6 (p := 10) rfl (by decide +kernel)
theorem dcX6_twoCome_158 : decode cX6_twoCome 158 = .ok (.iload_n 1, 1) := dw_at cX6_twoCome_k6 (p := 11) rfl (by decide +kernel)
theorem dcX6_twoCome_159 : decode cX6_twoCome 159 = .ok (.iload 4, 2) := dw_at cX6_twoCome_k6 (p := 12) rfl (by decide +kernel)
theorem dcX6_twoCome_161 : decode cX6_twoCome 161 = .ok (.if_icmp .ne 7, 3) := dw_at cX6_twoCome_k6 (p := 14) rfl (by decide +kernel)
theorem dcX6_twoCome_164 : decode cX6_twoCome 164 = .ok (.iconst (-1), 1) := dw_at cX6_twoCome_k6 (p := 17) rfl (by decide +kernel)
theorem dcX6_twoCome_165 : decode cX6_twoCome 165 = .ok (.goto 4, 3) := dw_at cX6_twoCome_k6 (p := 18) rfl (by decide +kernel)
theorem dcX6_twoCome_168 : decode cX6_twoCome 168 = .ok (.iload_n 1, 1) := dw_at cX6_twoCome_k6 (p := 21) rfl (by decide +kernel)
theorem dcX6_twoCome_169 : decode cX6_twoCome 169 = .ok (.iload 4, 2) := dw_at cX6_twoCome_k6 (p := 22) rfl (by decide +kernel)
theorem dcX6_twoCome_171 : decode cX6_twoCome 171 = .ok (.iload 5, 2) := dw_at cX6_twoCome_k7 (p := 0) rfl (by decide +kernel)
theorem dcX6_twoCome_173 : decode cX6_twoCome 173 = .ok (.invokevirtual 126, 3) := dw_at cX6_twoCome_k7 (p := 2) rfl (by decide +kernel)
theorem dcX6_twoCome_176 : decode cX6_twoCome 176 = .ok (.iload_n 3, 1) := dw_at cX6_twoCome_k7 (p := 5) rfl (by decide +kernel)
theorem dcX6_twoCome_177 : decode cX6_twoCome 177 = .ok (.iconst 2, 1) := dw_at cX6_twoCome_k7 (p := 6) rfl (by decide +kernel)
theorem dcX6_twoCome_178 : decode cX6_twoCome 178 = .ok (.iand, 1) := dw_at cX6_twoCome_k7 (p := 7) rfl (by decide +kernel)
theorem dcX6_twoCome_179 : decode cX6_twoCome 179 = .ok (.ifCond .ne 7, 3) := dw_at cX6_twoCome_k7 (p := 8) rfl (by decide +kernel)
theorem dcX6_twoCome_182 : decode cX6_twoCome 182 = .ok (.iconst 1, 1) := dw_at cX6_twoCome_k7 (p := 11) rfl (by decide +kernel)
theorem dcX6_twoCome_183 : decode cX6_twoCome 183 = .ok (.goto 4, 3) := dw_at cX6_twoCome_k7 (p := 12) rfl (by decide +kernel)
theorem dcX6_twoCome_186 : decode cX6_twoCome 186 = .ok (.iconst 0, 1) := dw_at cX6_twoCome_k7 (p := 15) rfl (by decide +kernel)
theorem dcX6_twoCome_187 : decode cX6_twoCome 187 = .ok (.istore 7, 2) := dw_at cX6_twoCome_k7 (p := 16) rfl (by decide +kernel)
theorem dcX6_twoCome_189 : decode cX6_twoCome 189 = .ok (.iload_n 2, 1) := dw_at cX6_twoCome_k7 (p := 18) rfl (by decide +kernel)
theorem dcX6_twoCome_190 : decode cX6_twoCome 190 = .ok (.iload 4, 2) := dw_at cX6_twoCome_k7 (p := 19) rfl (by decide +kernel)
theorem dcX6_twoCome_192 : decode cX6_twoCome 192 = .ok (.if_icmp .ge 7, 3) := dw_at cX6_twoCome_k7 (p := 21) rfl (by decide +kernel)
theorem dcX6_twoCome_195 : decode cX6_twoCome 195 = .ok (.iload_n 2, 1) := dw_at cX6_twoCome_k8 (p := 0) rfl (by decide +kernel)
theorem dcX6_twoCome_196 : decode cX6_twoCome 196 = .ok (.goto 15, 3) := dw_at cX6_twoCome_k8 (p := 1) rfl (by decide +kernel)
theorem dcX6_twoCome_199 : decode cX6_twoCome 199 = .ok (.iload_n 2, 1) := dw_at cX6_twoCome_k8 (p := 4) rfl (by decide +kernel)
theorem dcX6_twoCome_200 : decode cX6_twoCome 200 = .ok (.iload 4, 2) := dw_at cX6_twoCome_k8 (p := 5) rfl (by decide +kernel)
theorem dcX6_twoCome_202 : decode cX6_twoCome 202 = .ok (.if_icmp .ne 8, 3) := dw_at cX6_twoCome_k8 (p := 7) rfl (by decide +kernel)
theorem dcX6_twoCome_205 : decode cX6_twoCome 205 = .ok (.iload 5, 2) := dw_at cX6_twoCome_k8 (p := 10) rfl (by decide +kernel)
theorem dcX6_twoCome_207 : decode cX6_twoCome 207 = .ok (.goto 4, 3) := dw_at cX6_twoCome_k8 (p := 12) rfl (by decide +kernel)
theorem dcX6_twoCome_210 : decode cX6_twoCome 210 = .ok (.iconst (-1), 1) := dw_at cX6_twoCome_k8 (p := 15) rfl (by decide +kernel)
theorem dcX6_twoCome_211 : decode cX6_twoCome 211 = .ok (.istore 8, 2) := dw_at cX6_twoCome_k8 (p := 16) rfl (by decide +kernel)
theorem dcX6_twoCome_213 : decode cX6_twoCome 213 = .ok (.aload_n 0, 1) := dw_at cX6_twoCome_k8 (p := 18) rfl (by decide +kernel)
theorem dcX6_twoCome_214 : decode cX6_twoCome 214 = .ok (.iload 8, 2) := dw_at cX6_twoCome_k8 (p := 19) rfl (by decide +kernel)
theorem dcX6_twoCome_216 : decode cX6_twoCome 216 = .ok (.iload 7, 2) := dw_at cX6_twoCome_k8 (p := 21) rfl (by decide +kernel)
theorem dcX6_twoCome_218 : decode cX6_twoCome 218 = .ok (.ifCond .eq 10, 3) := dw_at cX6_twoCome_k8 (p := 23) rfl (by decide +kernel)
theorem dcX6_twoCome_221 : decode cX6_twoCome 221 = .ok (.iload 4, 2) := dw_at cX6_twoCome_k9 (p := 0) rfl (by decide +kernel)
theorem dcX6_twoCome_223 : decode cX6_twoCome 223 = .ok (.iconst 1, 1) := dw_at cX6_twoCome_k9 (p := 2) rfl (by decide +kernel)
theorem dcX6_twoCome_224 : decode cX6_twoCome 224 = .ok (.iadd, 1) := dw_at cX6_twoCome_k9 (p := 3) rfl (by decide +kernel)
theorem dcX6_twoCome_225 : decode cX6_twoCome 225 = .ok (.goto 7, 3) := dw_at cX6_twoCome_k9 (p := 4) rfl (by decide +kernel)
theorem dcX6_twoCome_228 : decode cX6_twoCome 228 = .ok (.iload 5, 2) := dw_at cX6_twoCome_k9 (p := 7) rfl (by decide +kernel)
theorem dcX6_twoCome_230 : decode cX6_twoCome 230 = .ok (.iconst 1, 1) := dw_at cX6_twoCome_k9 (p := 9) rfl (by decide +kernel)
theorem dcX6_twoCome_231 : decode cX6_twoCome 231 = .ok (.iadd, 1) := dw_at cX6_twoCome_k9 (p := 10) rfl (by decide +kernel)
theorem dcX6_twoCome_232 : decode cX6_twoCome 232 = .ok (.iload 7, 2) := dw_at cX6_twoCome_k9 (p := 11) rfl (by decide +kernel)
theorem dcX6_twoCome_234 : decode cX6_twoCome 234 = .ok (.ifCond .eq 10, 3) := dw_at cX6_twoCome_k9 (p := 13) rfl (by decide +kernel)
theorem dcX6_twoCome_237 : decode cX6_twoCome 237 = .ok (.iload 5, 2) := dw_at cX6_twoCome_k9 (p := 16) rfl (by decide +kernel)
theorem dcX6_twoCome_239 : decode cX6_twoCome 239 = .ok (.iconst 1, 1) := dw_at cX6_twoCome_k9 (p := 18) rfl (by decide +kernel)
theorem dcX6_twoCome_240 : decode cX6_twoCome 240 = .ok (.iadd, 1) := dw_at cX6_twoCome_k9 (p := 19) rfl (by decide +kernel)
theorem dcX6_twoCome_241 : decode cX6_twoCome 241 = .ok (.goto 7, 3) := dw_at cX6_twoCome_k9 (p := 20) rfl (by decide +kernel)
theorem dcX6_twoCome_244 : decode cX6_twoCome 244 = .ok (.iload 4, 2) := dw_at cX6_twoCome_k9 (p := 23) rfl (by decide +kernel)
theorem dcX6_twoCome_246 : decode cX6_twoCome 246 = .ok (.iconst 1, 1) := dw_at cX6_twoCome_k10 (p := 0) rfl (by decide +kernel)
theorem dcX6_twoCome_247 : decode cX6_twoCome 247 = .ok (.iadd, 1) := dw_at cX6_twoCome_k10 (p := 1) rfl (by decide +kernel)
theorem dcX6_twoCome_248 : decode cX6_twoCome 248 = .ok (.invokevirtual 126, 3) := dw_at cX6_twoCome_k10 (p := 2) rfl (by decide +kernel)
theorem dcX6_twoCome_251 : decode cX6_twoCome 251 = .ok (.aload_n 0, 1) := dw_at cX6_twoCome_k10 (p := 5) rfl (by decide +kernel)
theorem dcX6_twoCome_252 : decode cX6_twoCome 252 = .ok (.getfield 43, 3) := dw_at cX6_twoCome_k10 (p := 6) rfl (by decide +kernel)
theorem dcX6_twoCome_255 : decode cX6_twoCome 255 = .ok (.aload_n 0, 1) := dw_at cX6_twoCome_k10 (p := 9) rfl (by decide +kernel)
theorem dcX6_twoCome_256 : decode cX6_twoCome 256 = .ok (.getfield 33, 3) := dw_at cX6_twoCome_k10 (p := 10) rfl (by decide +kernel)
theorem dcX6_twoCome_259 : decode cX6_twoCome 259 = .ok (.invokevirtual 143, 3) := dw_at cX6_twoCome_k10 (p := 13) rfl (by decide +kernel)
theorem dcX6_twoCome_262 : decode cX6_twoCome 262 = .ok (.ireturn, 1) := dw_at cX6_twoCome_k10 (p := 16) rfl (by decide +kernel)
def cm_X6_twoCome_0 (vl : Nat → Nat) (K : Nat) (go : Nat → Int32 → Int32 → Int32 → Int32 → Int32 → Int32 → Int32 → Int32 → Nat → Int32 → Int32 → Int32 → ow_MS → Option (Int32 × ow_MS)) (x1 : Int32) (x2 : Int32) (x3 : Int32) (x4 : Int32) (x5 : Int32) (x6 : Int32) (x7 : Int32) (x8 : Int32) (r0 : Nat) (t0 : Int32) (t1 : Int32) (t2 : Int32) (z : ow_MS) : Option (Int32 × ow_MS) :=
 rdF z ((r0 + 4000) + 8) fun v1 => (if x1 = (2 * v1) then go 1 x1 x2 x3 (2 * v1) ((2 * v1) + 2) 0 0 0 r0 1 0 0 z
 else go 1 x1 x2 x3 (2 * v1) ((2 * v1) + 2) 0 0 0 r0 0 0 0 z)
def cm_X6_twoCome_1 (vl : Nat → Nat) (K : Nat) (go : Nat → Int32 → Int32 → Int32 → Int32 → Int32 → Int32 → Int32 → Int32 → Nat → Int32 → Int32 → Int32 → ow_MS → Option (Int32 × ow_MS)) (x1 : Int32) (x2 : Int32) (x3 : Int32) (x4 : Int32) (x5 : Int32) (x6 : Int32) (x7 : Int32) (x8 : Int32) (r0 : Nat) (t0 : Int32) (t1 : Int32) (t2 : Int32) (z : ow_MS) : Option (Int32 × ow_MS) :=
 (if x2 = (x4 + 1) then go 2 x1 x2 x3 x4 x5 0 0 0 r0 1 t0 0 z
 else go 2 x1 x2 x3 x4 x5 0 0 0 r0 0 t0 0 z)
def cm_X6_twoCome_2 (vl : Nat → Nat) (K : Nat) (go : Nat → Int32 → Int32 → Int32 → Int32 → Int32 → Int32 → Int32 → Int32 → Nat → Int32 → Int32 → Int32 → ow_MS → Option (Int32 × ow_MS)) (x1 : Int32) (x2 : Int32) (x3 : Int32) (x4 : Int32) (x5 : Int32) (x6 : Int32) (x7 : Int32) (x8 : Int32) (r0 : Nat) (t0 : Int32) (t1 : Int32) (t2 : Int32) (z : ow_MS) : Option (Int32 × ow_MS) :=
 rdF z ((r0 + 4000) + 9) fun v2 => (if v2 < (t1 + t0) then okZ 0 (some (0, z))
 else (if x4 ≤ x1 then go 3 x1 x2 x3 x4 x5 (t1 + t0) 0 0 r0 0 0 0 z
 else (if x4 ≤ x2 then go 3 x1 x2 x3 x4 x5 (t1 + t0) 0 0 r0 0 0 0 z
 else cs1 (ce_X6_mayMeet vl K r0 x1 x2 z) fun v4 z3 => (if v4 = 0 then okZ 0 (some (0, z3))
 else go 3 x1 x2 x3 x4 x5 (t1 + t0) 0 0 r0 0 0 0 z3))))
def cm_X6_twoCome_3 (vl : Nat → Nat) (K : Nat) (go : Nat → Int32 → Int32 → Int32 → Int32 → Int32 → Int32 → Int32 → Int32 → Nat → Int32 → Int32 → Int32 → ow_MS → Option (Int32 × ow_MS)) (x1 : Int32) (x2 : Int32) (x3 : Int32) (x4 : Int32) (x5 : Int32) (x6 : Int32) (x7 : Int32) (x8 : Int32) (r0 : Nat) (t0 : Int32) (t1 : Int32) (t2 : Int32) (z : ow_MS) : Option (Int32 × ow_MS) :=
 cs0 (ce_X7_copy vl K (r0 + 5000) (r0 + 4000) z) fun z5 => rdF z5 ((r0 + 5000) + 8) fun v6 => wrF z5 ((r0 + 5000) + 8) (v6 + 2) fun z7 => rdF z7 ((r0 + 4000) + 8) fun v8 => (if (x3 &&& 1) = 0 then go 4 x1 x2 x3 x4 x5 x6 0 0 r0 1 v8 0 z7
 else go 4 x1 x2 x3 x4 x5 x6 0 0 r0 (-1) v8 0 z7)
def cm_X6_twoCome_4 (vl : Nat → Nat) (K : Nat) (go : Nat → Int32 → Int32 → Int32 → Int32 → Int32 → Int32 → Int32 → Int32 → Nat → Int32 → Int32 → Int32 → ow_MS → Option (Int32 × ow_MS)) (x1 : Int32) (x2 : Int32) (x3 : Int32) (x4 : Int32) (x5 : Int32) (x6 : Int32) (x7 : Int32) (x8 : Int32) (r0 : Nat) (t0 : Int32) (t1 : Int32) (t2 : Int32) (z : ow_MS) : Option (Int32 × ow_MS) :=
 ctI (cX vl) z ((r0 + 5000) + 3) t1 t0 fun z9 => rdF z9 ((r0 + 4000) + 8) fun v10 => (if (x3 &&& 1) = 0 then go 5 x1 x2 x3 x4 x5 x6 0 0 r0 (-1) (v10 + 1) 0 z9
 else go 5 x1 x2 x3 x4 x5 x6 0 0 r0 1 (v10 + 1) 0 z9)
def cm_X6_twoCome_5 (vl : Nat → Nat) (K : Nat) (go : Nat → Int32 → Int32 → Int32 → Int32 → Int32 → Int32 → Int32 → Int32 → Nat → Int32 → Int32 → Int32 → ow_MS → Option (Int32 × ow_MS)) (x1 : Int32) (x2 : Int32) (x3 : Int32) (x4 : Int32) (x5 : Int32) (x6 : Int32) (x7 : Int32) (x8 : Int32) (r0 : Nat) (t0 : Int32) (t1 : Int32) (t2 : Int32) (z : ow_MS) : Option (Int32 × ow_MS) :=
 ctI (cX vl) z ((r0 + 5000) + 3) t1 t0 fun z11 => (if x1 = x4 then go 6 x1 x2 x3 x4 x5 x6 0 0 r0 (-1) 0 0 z11
 else go 6 x1 x2 x3 x4 x5 x6 0 0 r0 x1 0 0 z11)
def cm_X6_twoCome_6 (vl : Nat → Nat) (K : Nat) (go : Nat → Int32 → Int32 → Int32 → Int32 → Int32 → Int32 → Int32 → Int32 → Nat → Int32 → Int32 → Int32 → ow_MS → Option (Int32 × ow_MS)) (x1 : Int32) (x2 : Int32) (x3 : Int32) (x4 : Int32) (x5 : Int32) (x6 : Int32) (x7 : Int32) (x8 : Int32) (r0 : Nat) (t0 : Int32) (t1 : Int32) (t2 : Int32) (z : ow_MS) : Option (Int32 × ow_MS) :=
 cs0 (ce_X6_placePair vl K r0 t0 x4 x5 z) fun z12 => (if (x3 &&& 2) = 0 then go 7 x1 x2 x3 x4 x5 x6 0 0 r0 1 0 0 z12
 else go 7 x1 x2 x3 x4 x5 x6 0 0 r0 0 0 0 z12)
def cm_X6_twoCome_7 (vl : Nat → Nat) (K : Nat) (go : Nat → Int32 → Int32 → Int32 → Int32 → Int32 → Int32 → Int32 → Int32 → Nat → Int32 → Int32 → Int32 → ow_MS → Option (Int32 × ow_MS)) (x1 : Int32) (x2 : Int32) (x3 : Int32) (x4 : Int32) (x5 : Int32) (x6 : Int32) (x7 : Int32) (x8 : Int32) (r0 : Nat) (t0 : Int32) (t1 : Int32) (t2 : Int32) (z : ow_MS) : Option (Int32 × ow_MS) :=
 (if x4 ≤ x2 then (if x2 = x4 then go 8 x1 x2 x3 x4 x5 x6 t0 0 r0 x5 0 0 z
 else go 8 x1 x2 x3 x4 x5 x6 t0 0 r0 (-1) 0 0 z)
 else go 8 x1 x2 x3 x4 x5 x6 t0 0 r0 x2 0 0 z)
def cm_X6_twoCome_8 (vl : Nat → Nat) (K : Nat) (go : Nat → Int32 → Int32 → Int32 → Int32 → Int32 → Int32 → Int32 → Int32 → Nat → Int32 → Int32 → Int32 → ow_MS → Option (Int32 × ow_MS)) (x1 : Int32) (x2 : Int32) (x3 : Int32) (x4 : Int32) (x5 : Int32) (x6 : Int32) (x7 : Int32) (x8 : Int32) (r0 : Nat) (t0 : Int32) (t1 : Int32) (t2 : Int32) (z : ow_MS) : Option (Int32 × ow_MS) :=
 (if x7 = 0 then go 9 x1 x2 x3 x4 x5 x6 x7 t0 r0 (x5 + 1) t0 0 z
 else go 9 x1 x2 x3 x4 x5 x6 x7 t0 r0 (x4 + 1) t0 0 z)
def cm_X6_twoCome_9 (vl : Nat → Nat) (K : Nat) (go : Nat → Int32 → Int32 → Int32 → Int32 → Int32 → Int32 → Int32 → Int32 → Nat → Int32 → Int32 → Int32 → ow_MS → Option (Int32 × ow_MS)) (x1 : Int32) (x2 : Int32) (x3 : Int32) (x4 : Int32) (x5 : Int32) (x6 : Int32) (x7 : Int32) (x8 : Int32) (r0 : Nat) (t0 : Int32) (t1 : Int32) (t2 : Int32) (z : ow_MS) : Option (Int32 × ow_MS) :=
 (if x7 = 0 then go 10 x1 x2 x3 x4 x5 x6 x7 x8 r0 (x4 + 1) t0 t1 z
 else go 10 x1 x2 x3 x4 x5 x6 x7 x8 r0 (x5 + 1) t0 t1 z)
def cm_X6_twoCome_10 (vl : Nat → Nat) (K : Nat) (go : Nat → Int32 → Int32 → Int32 → Int32 → Int32 → Int32 → Int32 → Int32 → Nat → Int32 → Int32 → Int32 → ow_MS → Option (Int32 × ow_MS)) (x1 : Int32) (x2 : Int32) (x3 : Int32) (x4 : Int32) (x5 : Int32) (x6 : Int32) (x7 : Int32) (x8 : Int32) (r0 : Nat) (t0 : Int32) (t1 : Int32) (t2 : Int32) (z : ow_MS) : Option (Int32 × ow_MS) :=
 cs0 (ce_X6_placePair vl K r0 t2 t1 t0 z) fun z13 => cs1 (ce_X4_isPlane vl K (r0 + 7000) (r0 + 5000) z13) fun v15 z14 => okZ v15 (some (v15, z14))
def cb_X6_twoCome (vl : Nat → Nat) (K : Nat) (go : Nat → Int32 → Int32 → Int32 → Int32 → Int32 → Int32 → Int32 → Int32 → Nat → Int32 → Int32 → Int32 → ow_MS → Option (Int32 × ow_MS)) (L : Nat) (x1 : Int32) (x2 : Int32) (x3 : Int32) (x4 : Int32) (x5 : Int32) (x6 : Int32) (x7 : Int32) (x8 : Int32) (r0 : Nat) (t0 : Int32) (t1 : Int32) (t2 : Int32) (z : ow_MS) : Option (Int32 × ow_MS) := match L with
  | 0 => cm_X6_twoCome_0 vl K go x1 x2 x3 x4 x5 x6 x7 x8 r0 t0 t1 t2 z
  | 1 => cm_X6_twoCome_1 vl K go x1 x2 x3 x4 x5 x6 x7 x8 r0 t0 t1 t2 z
  | 2 => cm_X6_twoCome_2 vl K go x1 x2 x3 x4 x5 x6 x7 x8 r0 t0 t1 t2 z
  | 3 => cm_X6_twoCome_3 vl K go x1 x2 x3 x4 x5 x6 x7 x8 r0 t0 t1 t2 z
  | 4 => cm_X6_twoCome_4 vl K go x1 x2 x3 x4 x5 x6 x7 x8 r0 t0 t1 t2 z
  | 5 => cm_X6_twoCome_5 vl K go x1 x2 x3 x4 x5 x6 x7 x8 r0 t0 t1 t2 z
  | 6 => cm_X6_twoCome_6 vl K go x1 x2 x3 x4 x5 x6 x7 x8 r0 t0 t1 t2 z
  | 7 => cm_X6_twoCome_7 vl K go x1 x2 x3 x4 x5 x6 x7 x8 r0 t0 t1 t2 z
  | 8 => cm_X6_twoCome_8 vl K go x1 x2 x3 x4 x5 x6 x7 x8 r0 t0 t1 t2 z
  | 9 => cm_X6_twoCome_9 vl K go x1 x2 x3 x4 x5 x6 x7 x8 r0 t0 t1 t2 z
  | 10 => cm_X6_twoCome_10 vl K go x1 x2 x3 x4 x5 x6 x7 x8 r0 t0 t1 t2 z
  | _ => none
def c_X6_twoCome (vl : Nat → Nat) (K : Nat) : Nat → Nat → Int32 → Int32 → Int32 → Int32 → Int32 → Int32 → Int32 → Int32 → Nat → Int32 → Int32 → Int32 → ow_MS → Option (Int32 × ow_MS)
  | 0 => fun _ _ _ _ _ _ _ _ _ _ _ _ _ _ => none
  | k + 1 => cb_X6_twoCome vl K (c_X6_twoCome vl K k)
def ce_X6_twoCome (vl : Nat → Nat) (K : Nat) (r0 : Nat) (x1 : Int32) (x2 : Int32) (x3 : Int32) (z : ow_MS) : Option (Int32 × ow_MS) := c_X6_twoCome vl K K 0 x1 x2 x3 0 0 0 0 0 r0 0 0 0 z
abbrev wc_X6_twoCome : List Cond := .code yX6_twoCome cX6_twoCome 9 (some .boolean) :: wC
theorem cdd_X6_twoCome : yX6_twoCome.cls = RX6 ∧ yX6_twoCome.cls ≠ "java/lang/invoke/MethodHandle" ∧ yX6_twoCome.cls ≠ "java/lang/invoke/VarHandle" ∧ (parseMethodDescriptor yX6_twoCome.desc).map (fun d => d.parameters.length) = some 3 := by decide +kernel
set_option maxHeartbeats 4000000 in
set_option maxRecDepth 100000 in
theorem kc_X6_twoCome (l : Launch) (D : va_G) (q : Nat → ClassId) (vl u : Nat → Nat) (hU0 : tw_inj (cX vl) u) (K : Nat) (r0 : Nat) (x1 : Int32) (x2 : Int32) (x3 : Int32) (hr0 : cw_X6 r0) (z z1 : ow_MS) (r : Int32) (hq : ce_X6_twoCome vl K r0 x1 x2 x3 z = some (r, z1)) : Met l yX6_twoCome wc_X6_twoCome ({ frames := 4, cells := 0, slots := 0, locals := 93 } : Room) (va_Pc [.ref (u r0), .int x1, .int x2, .int x3] (cw_pre D q vl u z)) (va_Qi (fun x (_ : Unit) => x = r) (fun _ t => va_P D vwCl (uw (cX vl) q u z1) t.heap) (tw_A (cX vl) u)) 0 0 (tw_A (cX vl) u) := by
  refine Met.ofW (cc := cX6_twoCome) (maxL := 9) (ret := (some .boolean)) (by decide) rfl ?_
  intro p e s m args below meth c s₁ B hml hv
  obtain ⟨rfl, hP, hK⟩ := hv
  have hx := B.exec
  have hb := B.bytes
  have hr := B.returns
  have hts := atoms_spec (ws := wc_X6_twoCome) B.pre
  have hT : ∀ w ∈ wC, w.before ([.ref (u r0), .int x1, .int x2, .int x3] : List Value).toArray s = true := fun w h => hts w (List.mem_cons_of_mem _ h)
  have hown : s.vm.findClass RX6 = some m.cls := findClass_of_methodNamed B.named
  have hlocks := B.notSynchronized
  have hU : uw_inj (cX vl) u (tw_A (cX vl) u) := ⟨hU0, fun h hh => ⟨h, hh, rfl⟩⟩
  have hM : uw_M D vwCl (cX vl) q (tw_A (cX vl) u) s.heap u z s.heap [] := ⟨hP, va_S.rf⟩
  have hl := lv_entry ([.ref (u r0), .int x1, .int x2, .int x3]) (n := 9) (Nat.le_of_ble_eq_true rfl)
  rw [lg_entry_eq]
  generalize (lg_sl ([.ref (u r0), .int x1, .int x2, .int x3]) ++ List.replicate (9 - (lg_sl ([.ref (u r0), .int x1, .int x2, .int x3])).length) Slot.unset).toArray = ls at hl ⊢
  have hl : lv_has ls 9 [(0, .ref (u r0)), (1, .int x1), (2, .int x2), (3, .int x3)] := hl
  refine ow_named (fun QQ hQQ => ?_)
  generalize ([.ref (u r0), .int x1, .int x2, .int x3] : List Value).toArray = args at hts hT hQQ ⊢
  have key : ∀ k : Nat, (∀ (x1 : Int32) (x2 : Int32) (x3 : Int32) (x4 : Int32) (x5 : Int32) (x6 : Int32) (x7 : Int32) (x8 : Int32) (r0 : Nat) (t0 : Int32) (t1 : Int32) (t2 : Int32) (z : ow_MS) (H : Heap) (locs : List Loc) (ls : Array Slot), cw_X6 r0 → uw_M D vwCl (cX vl) q (tw_A (cX vl) u) s.heap u z H locs → lv_has ls 9 [(0, .ref (u r0)), (1, .int x1), (2, .int x2), (3, .int x3)] → c_X6_twoCome vl K k 0 x1 x2 x3 x4 x5 x6 x7 x8 r0 t0 t1 t2 z = some (r, z1) → W p l e ({ frames := 4, cells := 0, slots := 0, locals := 93 } : Room) s m args below meth c H locs 0 0 QQ (F0 m 0 ls [])) ∧ (∀ (x1 : Int32) (x2 : Int32) (x3 : Int32) (x4 : Int32) (x5 : Int32) (x6 : Int32) (x7 : Int32) (x8 : Int32) (r0 : Nat) (t0 : Int32) (t1 : Int32) (t2 : Int32) (z : ow_MS) (H : Heap) (locs : List Loc) (ls : Array Slot), cw_X6 r0 → uw_M D vwCl (cX vl) q (tw_A (cX vl) u) s.heap u z H locs → lv_has ls 9 [(0, .ref (u r0)), (1, .int x1), (2, .int x2), (3, .int x3), (4, .int x4), (5, .int x5)] → c_X6_twoCome vl K k 1 x1 x2 x3 x4 x5 x6 x7 x8 r0 t0 t1 t2 z = some (r, z1) → W p l e ({ frames := 4, cells := 0, slots := 0, locals := 93 } : Room) s m args below meth c H locs 0 0 QQ (F0 m 28 ls [.int t0])) ∧ (∀ (x1 : Int32) (x2 : Int32) (x3 : Int32) (x4 : Int32) (x5 : Int32) (x6 : Int32) (x7 : Int32) (x8 : Int32) (r0 : Nat) (t0 : Int32) (t1 : Int32) (t2 : Int32) (z : ow_MS) (H : Heap) (locs : List Loc) (ls : Array Slot), cw_X6 r0 → uw_M D vwCl (cX vl) q (tw_A (cX vl) u) s.heap u z H locs → lv_has ls 9 [(0, .ref (u r0)), (1, .int x1), (2, .int x2), (3, .int x3), (4, .int x4), (5, .int x5)] → c_X6_twoCome vl K k 2 x1 x2 x3 x4 x5 x6 x7 x8 r0 t0 t1 t2 z = some (r, z1) → W p l e ({ frames := 4, cells := 0, slots := 0, locals := 93 } : Room) s m args below meth c H locs 0 0 QQ (F0 m 41 ls [.int t0, .int t1])) ∧ (∀ (x1 : Int32) (x2 : Int32) (x3 : Int32) (x4 : Int32) (x5 : Int32) (x6 : Int32) (x7 : Int32) (x8 : Int32) (r0 : Nat) (t0 : Int32) (t1 : Int32) (t2 : Int32) (z : ow_MS) (H : Heap) (locs : List Loc) (ls : Array Slot), cw_X6 r0 → uw_M D vwCl (cX vl) q (tw_A (cX vl) u) s.heap u z H locs → lv_has ls 9 [(0, .ref (u r0)), (1, .int x1), (2, .int x2), (3, .int x3), (4, .int x4), (5, .int x5), (6, .int x6)] → c_X6_twoCome vl K k 3 x1 x2 x3 x4 x5 x6 x7 x8 r0 t0 t1 t2 z = some (r, z1) → W p l e ({ frames := 4, cells := 0, slots := 0, locals := 93 } : Room) s m args below meth c H locs 0 0 QQ (F0 m 79 ls [])) ∧ (∀ (x1 : Int32) (x2 : Int32) (x3 : Int32) (x4 : Int32) (x5 : Int32) (x6 : Int32) (x7 : Int32) (x8 : Int32) (r0 : Nat) (t0 : Int32) (t1 : Int32) (t2 : Int32) (z : ow_MS) (H : Heap) (locs : List Loc) (ls : Array Slot), cw_X6 r0 → uw_M D vwCl (cX vl) q (tw_A (cX vl) u) s.heap u z H locs → lv_has ls 9 [(0, .ref (u r0)), (1, .int x1), (2, .int x2), (3, .int x3), (4, .int x4), (5, .int x5), (6, .int x6)] → c_X6_twoCome vl K k 4 x1 x2 x3 x4 x5 x6 x7 x8 r0 t0 t1 t2 z = some (r, z1) → W p l e ({ frames := 4, cells := 0, slots := 0, locals := 93 } : Room) s m args below meth c H locs 0 0 QQ (F0 m 128 ls [.int t0, .int t1, .ref (u ((r0 + 5000) + 3))])) ∧ (∀ (x1 : Int32) (x2 : Int32) (x3 : Int32) (x4 : Int32) (x5 : Int32) (x6 : Int32) (x7 : Int32) (x8 : Int32) (r0 : Nat) (t0 : Int32) (t1 : Int32) (t2 : Int32) (z : ow_MS) (H : Heap) (locs : List Loc) (ls : Array Slot), cw_X6 r0 → uw_M D vwCl (cX vl) q (tw_A (cX vl) u) s.heap u z H locs → lv_has ls 9 [(0, .ref (u r0)), (1, .int x1), (2, .int x2), (3, .int x3), (4, .int x4), (5, .int x5), (6, .int x6)] → c_X6_twoCome vl K k 5 x1 x2 x3 x4 x5 x6 x7 x8 r0 t0 t1 t2 z = some (r, z1) → W p l e ({ frames := 4, cells := 0, slots := 0, locals := 93 } : Room) s m args below meth c H locs 0 0 QQ (F0 m 156 ls [.int t0, .int t1, .ref (u ((r0 + 5000) + 3))])) ∧ (∀ (x1 : Int32) (x2 : Int32) (x3 : Int32) (x4 : Int32) (x5 : Int32) (x6 : Int32) (x7 : Int32) (x8 : Int32) (r0 : Nat) (t0 : Int32) (t1 : Int32) (t2 : Int32) (z : ow_MS) (H : Heap) (locs : List Loc) (ls : Array Slot), cw_X6 r0 → uw_M D vwCl (cX vl) q (tw_A (cX vl) u) s.heap u z H locs → lv_has ls 9 [(0, .ref (u r0)), (1, .int x1), (2, .int x2), (3, .int x3), (4, .int x4), (5, .int x5), (6, .int x6)] → c_X6_twoCome vl K k 6 x1 x2 x3 x4 x5 x6 x7 x8 r0 t0 t1 t2 z = some (r, z1) → W p l e ({ frames := 4, cells := 0, slots := 0, locals := 93 } : Room) s m args below meth c H locs 0 0 QQ (F0 m 169 ls [.int t0, .ref (u r0)])) ∧ (∀ (x1 : Int32) (x2 : Int32) (x3 : Int32) (x4 : Int32) (x5 : Int32) (x6 : Int32) (x7 : Int32) (x8 : Int32) (r0 : Nat) (t0 : Int32) (t1 : Int32) (t2 : Int32) (z : ow_MS) (H : Heap) (locs : List Loc) (ls : Array Slot), cw_X6 r0 → uw_M D vwCl (cX vl) q (tw_A (cX vl) u) s.heap u z H locs → lv_has ls 9 [(0, .ref (u r0)), (1, .int x1), (2, .int x2), (3, .int x3), (4, .int x4), (5, .int x5), (6, .int x6)] → c_X6_twoCome vl K k 7 x1 x2 x3 x4 x5 x6 x7 x8 r0 t0 t1 t2 z = some (r, z1) → W p l e ({ frames := 4, cells := 0, slots := 0, locals := 93 } : Room) s m args below meth c H locs 0 0 QQ (F0 m 187 ls [.int t0])) ∧ (∀ (x1 : Int32) (x2 : Int32) (x3 : Int32) (x4 : Int32) (x5 : Int32) (x6 : Int32) (x7 : Int32) (x8 : Int32) (r0 : Nat) (t0 : Int32) (t1 : Int32) (t2 : Int32) (z : ow_MS) (H : Heap) (locs : List Loc) (ls : Array Slot), cw_X6 r0 → uw_M D vwCl (cX vl) q (tw_A (cX vl) u) s.heap u z H locs → lv_has ls 9 [(0, .ref (u r0)), (1, .int x1), (2, .int x2), (3, .int x3), (4, .int x4), (5, .int x5), (6, .int x6), (7, .int x7)] → c_X6_twoCome vl K k 8 x1 x2 x3 x4 x5 x6 x7 x8 r0 t0 t1 t2 z = some (r, z1) → W p l e ({ frames := 4, cells := 0, slots := 0, locals := 93 } : Room) s m args below meth c H locs 0 0 QQ (F0 m 211 ls [.int t0])) ∧ (∀ (x1 : Int32) (x2 : Int32) (x3 : Int32) (x4 : Int32) (x5 : Int32) (x6 : Int32) (x7 : Int32) (x8 : Int32) (r0 : Nat) (t0 : Int32) (t1 : Int32) (t2 : Int32) (z : ow_MS) (H : Heap) (locs : List Loc) (ls : Array Slot), cw_X6 r0 → uw_M D vwCl (cX vl) q (tw_A (cX vl) u) s.heap u z H locs → lv_has ls 9 [(0, .ref (u r0)), (1, .int x1), (2, .int x2), (3, .int x3), (4, .int x4), (5, .int x5), (6, .int x6), (7, .int x7), (8, .int x8)] → c_X6_twoCome vl K k 9 x1 x2 x3 x4 x5 x6 x7 x8 r0 t0 t1 t2 z = some (r, z1) → W p l e ({ frames := 4, cells := 0, slots := 0, locals := 93 } : Room) s m args below meth c H locs 0 0 QQ (F0 m 232 ls [.int t0, .int t1, .ref (u r0)])) ∧ (∀ (x1 : Int32) (x2 : Int32) (x3 : Int32) (x4 : Int32) (x5 : Int32) (x6 : Int32) (x7 : Int32) (x8 : Int32) (r0 : Nat) (t0 : Int32) (t1 : Int32) (t2 : Int32) (z : ow_MS) (H : Heap) (locs : List Loc) (ls : Array Slot), cw_X6 r0 → uw_M D vwCl (cX vl) q (tw_A (cX vl) u) s.heap u z H locs → lv_has ls 9 [(0, .ref (u r0)), (1, .int x1), (2, .int x2), (3, .int x3), (4, .int x4), (5, .int x5), (6, .int x6), (7, .int x7), (8, .int x8)] → c_X6_twoCome vl K k 10 x1 x2 x3 x4 x5 x6 x7 x8 r0 t0 t1 t2 z = some (r, z1) → W p l e ({ frames := 4, cells := 0, slots := 0, locals := 93 } : Room) s m args below meth c H locs 0 0 QQ (F0 m 248 ls [.int t0, .int t1, .int t2, .ref (u r0)])) := by
    intro k
    induction k with
    | zero => exact ⟨fun _ _ _ _ _ _ _ _ _ _ _ _ _ _ _ _ _ _ _ hq => cw_no hq, fun _ _ _ _ _ _ _ _ _ _ _ _ _ _ _ _ _ _ _ hq => cw_no hq, fun _ _ _ _ _ _ _ _ _ _ _ _ _ _ _ _ _ _ _ hq => cw_no hq, fun _ _ _ _ _ _ _ _ _ _ _ _ _ _ _ _ _ _ _ hq => cw_no hq, fun _ _ _ _ _ _ _ _ _ _ _ _ _ _ _ _ _ _ _ hq => cw_no hq, fun _ _ _ _ _ _ _ _ _ _ _ _ _ _ _ _ _ _ _ hq => cw_no hq, fun _ _ _ _ _ _ _ _ _ _ _ _ _ _ _ _ _ _ _ hq => cw_no hq, fun _ _ _ _ _ _ _ _ _ _ _ _ _ _ _ _ _ _ _ hq => cw_no hq, fun _ _ _ _ _ _ _ _ _ _ _ _ _ _ _ _ _ _ _ hq => cw_no hq, fun _ _ _ _ _ _ _ _ _ _ _ _ _ _ _ _ _ _ _ hq => cw_no hq, fun _ _ _ _ _ _ _ _ _ _ _ _ _ _ _ _ _ _ _ hq => cw_no hq⟩
    | succ k ih =>
      obtain ⟨ih_0, ih_1, ih_2, ih_3, ih_4, ih_5, ih_6, ih_7, ih_8, ih_9, ih_10⟩ := ih
      refine ⟨?_, ?_, ?_, ?_, ?_, ?_, ?_, ?_, ?_, ?_, ?_⟩
      · intro x1 x2 x3 x4 x5 x6 x7 x8 r0 t0 t1 t2 z H locs ls hr0 hM hl hq
        have hq : cm_X6_twoCome_0 vl K (c_X6_twoCome vl K k) x1 x2 x3 x4 x5 x6 x7 x8 r0 t0 t1 t2 z = some (r, z1) := hq
        unfold cm_X6_twoCome_0 at hq
        refine lv_iconst (v := 2) hx hb dcX6_twoCome_0 (by decide) ?_
        refine lv_aload_n hx hb dcX6_twoCome_1 rfl (lv_at hl 0 rfl) ?_
        refine vgX6_29 hx hb hT hown hK hM hr0 dcX6_twoCome_2 ?_
        refine vgX6_81 hx hb hT hown hK hM (cs_X6_3 hr0) hq dcX6_twoCome_5 (fun v1 hq => ?_)
        refine lv_imul hx hb dcX6_twoCome_8 ?_
        refine lv_istore (lv' := [(4, .int (2 * v1)), (0, .ref (u r0)), (1, .int x1), (2, .int x2), (3, .int x3)]) hx hb dcX6_twoCome_9 hl (by decide) rfl (fun ls hl => ?_)
        refine lv_iload hx hb dcX6_twoCome_11 (lv_at hl 0 rfl) ?_
        refine lv_iconst (v := 2) hx hb dcX6_twoCome_13 (by decide) ?_
        refine lv_iadd hx hb dcX6_twoCome_14 ?_
        refine lv_istore (lv' := [(5, .int ((2 * v1) + 2)), (4, .int (2 * v1)), (0, .ref (u r0)), (1, .int x1), (2, .int x2), (3, .int x3)]) hx hb dcX6_twoCome_15 hl (by decide) rfl (fun ls hl => ?_)
        refine lv_iload_n hx hb dcX6_twoCome_17 rfl (lv_at hl 3 rfl) ?_
        refine lv_iload hx hb dcX6_twoCome_18 (lv_at hl 1 rfl) ?_
        refine lv_icmp_ne (tgt := 27) hx hb dcX6_twoCome_20 (by decide) (fun hc => ?_) (fun hc => ?_)
        · have hq := tw_if hq hc
          refine lv_iconst (v := 0) hx hb dcX6_twoCome_27 (by decide) ?_
          exact ih_1 x1 x2 x3 (2 * v1) ((2 * v1) + 2) 0 0 0 r0 0 0 0 z H locs ls hr0 hM (lv_sub hl [2, 3, 4, 5, 1, 0] rfl) hq
        · have hq := tw_it hq hc
          refine lv_iconst (v := 1) hx hb dcX6_twoCome_23 (by decide) ?_
          refine lv_goto (tgt := 28) hx hb dcX6_twoCome_24 (by decide) ?_
          exact ih_1 x1 x2 x3 (2 * v1) ((2 * v1) + 2) 0 0 0 r0 1 0 0 z H locs ls hr0 hM (lv_sub hl [2, 3, 4, 5, 1, 0] rfl) hq
      · intro x1 x2 x3 x4 x5 x6 x7 x8 r0 t0 t1 t2 z H locs ls hr0 hM hl hq
        have hq : cm_X6_twoCome_1 vl K (c_X6_twoCome vl K k) x1 x2 x3 x4 x5 x6 x7 x8 r0 t0 t1 t2 z = some (r, z1) := hq
        unfold cm_X6_twoCome_1 at hq
        refine lv_iload_n hx hb dcX6_twoCome_28 rfl (lv_at hl 2 rfl) ?_
        refine lv_iload hx hb dcX6_twoCome_29 (lv_at hl 4 rfl) ?_
        refine lv_iconst (v := 1) hx hb dcX6_twoCome_31 (by decide) ?_
        refine lv_iadd hx hb dcX6_twoCome_32 ?_
        refine lv_icmp_ne (tgt := 40) hx hb dcX6_twoCome_33 (by decide) (fun hc => ?_) (fun hc => ?_)
        · have hq := tw_if hq hc
          refine lv_iconst (v := 0) hx hb dcX6_twoCome_40 (by decide) ?_
          exact ih_2 x1 x2 x3 x4 x5 0 0 0 r0 0 t0 0 z H locs ls hr0 hM (lv_sub hl [0, 1, 2, 3, 4, 5] rfl) hq
        · have hq := tw_it hq hc
          refine lv_iconst (v := 1) hx hb dcX6_twoCome_36 (by decide) ?_
          refine lv_goto (tgt := 41) hx hb dcX6_twoCome_37 (by decide) ?_
          exact ih_2 x1 x2 x3 x4 x5 0 0 0 r0 1 t0 0 z H locs ls hr0 hM (lv_sub hl [0, 1, 2, 3, 4, 5] rfl) hq
      · intro x1 x2 x3 x4 x5 x6 x7 x8 r0 t0 t1 t2 z H locs ls hr0 hM hl hq
        have hq : cm_X6_twoCome_2 vl K (c_X6_twoCome vl K k) x1 x2 x3 x4 x5 x6 x7 x8 r0 t0 t1 t2 z = some (r, z1) := hq
        unfold cm_X6_twoCome_2 at hq
        refine lv_iadd hx hb dcX6_twoCome_41 ?_
        refine lv_istore (lv' := [(6, .int (t1 + t0)), (0, .ref (u r0)), (1, .int x1), (2, .int x2), (3, .int x3), (4, .int x4), (5, .int x5)]) hx hb dcX6_twoCome_42 hl (by decide) rfl (fun ls hl => ?_)
        refine lv_iload hx hb dcX6_twoCome_44 (lv_at hl 0 rfl) ?_
        refine lv_aload_n hx hb dcX6_twoCome_46 rfl (lv_at hl 1 rfl) ?_
        refine vgX6_29 hx hb hT hown hK hM hr0 dcX6_twoCome_47 ?_
        refine vgX6_120 hx hb hT hown hK hM (cs_X6_3 hr0) hq dcX6_twoCome_50 (fun v2 hq => ?_)
        refine lv_icmp_gt (tgt := 77) hx hb dcX6_twoCome_53 (by decide) (fun hc => ?_) (fun hc => ?_)
        · have hq := tw_it hq hc
          refine lv_iconst (v := 0) hx hb dcX6_twoCome_77 (by decide) ?_
          obtain ⟨hz, hq⟩ := tw_gZ hq
          exact cw_zret hx hb hr hlocks hM hz hq hQQ dcX6_twoCome_78
        · have hq := tw_if hq hc
          refine lv_iload_n hx hb dcX6_twoCome_56 rfl (lv_at hl 2 rfl) ?_
          refine lv_iload hx hb dcX6_twoCome_57 (lv_at hl 5 rfl) ?_
          refine lv_icmp_ge (tgt := 79) hx hb dcX6_twoCome_59 (by decide) (fun hc => ?_) (fun hc => ?_)
          · have hq := tw_it hq hc
            exact ih_3 x1 x2 x3 x4 x5 (t1 + t0) 0 0 r0 0 0 0 z H locs ls hr0 hM (lv_sub hl [1, 2, 3, 4, 5, 6, 0] rfl) hq
          · have hq := tw_if hq hc
            refine lv_iload_n hx hb dcX6_twoCome_62 rfl (lv_at hl 3 rfl) ?_
            refine lv_iload hx hb dcX6_twoCome_63 (lv_at hl 5 rfl) ?_
            refine lv_icmp_ge (tgt := 79) hx hb dcX6_twoCome_65 (by decide) (fun hc => ?_) (fun hc => ?_)
            · have hq := tw_it hq hc
              exact ih_3 x1 x2 x3 x4 x5 (t1 + t0) 0 0 r0 0 0 0 z H locs ls hr0 hM (lv_sub hl [1, 2, 3, 4, 5, 6, 0] rfl) hq
            · have hq := tw_if hq hc
              refine lv_aload_n hx hb dcX6_twoCome_68 rfl (lv_at hl 1 rfl) ?_
              refine lv_iload_n hx hb dcX6_twoCome_69 rfl (lv_at hl 2 rfl) ?_
              refine lv_iload_n hx hb dcX6_twoCome_70 rfl (lv_at hl 3 rfl) ?_
              obtain ⟨v4, z3, hcq, hq⟩ := tw_cl1 hq
              refine uw_cali hU hM (va_runV (As := [.int x1, .int x2]) (rest := []) ⟨hx, hb, hml, hown, hts⟩ (kc_X6_mayMeet l D q vl u hU.1 K r0 x1 x2 hr0 z z3 v4 hcq) (cwV 2 hts (tw_gV wC_good xq_522 xq_523 xq_524 xq_146 xq_525) rfl rfl rfl cdd_X6_mayMeet ⟨(Nat.le_of_ble_eq_true rfl), (Nat.le_of_ble_eq_true rfl)⟩) (cw_preV hK hM (co_X6 hr0) rfl) rfl rfl hl.1 rfl (lv_room (Nat.le_of_ble_eq_true rfl)) dcX6_twoCome_71 ⟨(Nat.le_of_ble_eq_true rfl), (Nat.le_of_ble_eq_true rfl)⟩) (fun H locs hM => ?_)
              refine lv_if_ne (tgt := 79) hx hb dcX6_twoCome_74 (by decide) (fun hc => ?_) (fun hc => ?_)
              · have hq := tw_if hq hc
                exact ih_3 x1 x2 x3 x4 x5 (t1 + t0) 0 0 r0 0 0 0 z3 H locs ls hr0 hM (lv_sub hl [1, 2, 3, 4, 5, 6, 0] rfl) hq
              · have hq := tw_it hq hc
                refine lv_iconst (v := 0) hx hb dcX6_twoCome_77 (by decide) ?_
                obtain ⟨hz, hq⟩ := tw_gZ hq
                exact cw_zret hx hb hr hlocks hM hz hq hQQ dcX6_twoCome_78
      · intro x1 x2 x3 x4 x5 x6 x7 x8 r0 t0 t1 t2 z H locs ls hr0 hM hl hq
        have hq : cm_X6_twoCome_3 vl K (c_X6_twoCome vl K k) x1 x2 x3 x4 x5 x6 x7 x8 r0 t0 t1 t2 z = some (r, z1) := hq
        unfold cm_X6_twoCome_3 at hq
        refine lv_aload_n hx hb dcX6_twoCome_79 rfl (lv_at hl 0 rfl) ?_
        refine vgX6_33 hx hb hT hown hK hM hr0 dcX6_twoCome_80 ?_
        refine lv_aload_n hx hb dcX6_twoCome_83 rfl (lv_at hl 0 rfl) ?_
        refine vgX6_29 hx hb hT hown hK hM hr0 dcX6_twoCome_84 ?_
        obtain ⟨z5, hcq, hq⟩ := tw_cl0 hq
        refine uw_calv hU hM (va_runV (As := [.ref (u (r0 + 4000))]) (rest := []) ⟨hx, hb, hml, hown, hts⟩ (kc_X7_copy l D q vl u hU.1 K (r0 + 5000) (r0 + 4000) (cs_X6_4 hr0) (cs_X6_3 hr0) z z5 hcq) (cwV 1 hts (tw_gV wC_good xq_493 xq_125 xq_126 xq_54 xq_127) rfl rfl rfl cdd_X7_copy ⟨(Nat.le_of_ble_eq_true rfl), (Nat.le_of_ble_eq_true rfl)⟩) (cw_preV hK hM (co_X7 (cs_X6_4 hr0)) rfl) rfl rfl hl.1 rfl (lv_room (Nat.le_of_ble_eq_true rfl)) dcX6_twoCome_87 ⟨(Nat.le_of_ble_eq_true rfl), (Nat.le_of_ble_eq_true rfl)⟩) (fun H locs hM => ?_)
        refine lv_aload_n hx hb dcX6_twoCome_90 rfl (lv_at hl 0 rfl) ?_
        refine vgX6_33 hx hb hT hown hK hM hr0 dcX6_twoCome_91 ?_
        refine lv_dup hx hb dcX6_twoCome_94 rfl ?_
        refine vgX6_81 hx hb hT hown hK hM (cs_X6_4 hr0) hq dcX6_twoCome_95 (fun v6 hq => ?_)
        refine lv_iconst (v := 2) hx hb dcX6_twoCome_98 (by decide) ?_
        refine lv_iadd hx hb dcX6_twoCome_99 ?_
        refine vpX6_81 hx hb hT hown hK hM hU (cs_X6_4 hr0) hq dcX6_twoCome_100 (fun z7 H locs hM hq => ?_)
        refine lv_aload_n hx hb dcX6_twoCome_103 rfl (lv_at hl 0 rfl) ?_
        refine vgX6_33 hx hb hT hown hK hM hr0 dcX6_twoCome_104 ?_
        refine vgX6_123 hx hb hT hown hK hM (cs_X6_4 hr0) dcX6_twoCome_107 ?_
        refine lv_aload_n hx hb dcX6_twoCome_110 rfl (lv_at hl 0 rfl) ?_
        refine vgX6_29 hx hb hT hown hK hM hr0 dcX6_twoCome_111 ?_
        refine vgX6_81 hx hb hT hown hK hM (cs_X6_3 hr0) hq dcX6_twoCome_114 (fun v8 hq => ?_)
        refine lv_iload_n hx hb dcX6_twoCome_117 rfl (lv_at hl 3 rfl) ?_
        refine lv_iconst (v := 1) hx hb dcX6_twoCome_118 (by decide) ?_
        refine lv_iand hx hb dcX6_twoCome_119 ?_
        refine lv_if_ne (tgt := 127) hx hb dcX6_twoCome_120 (by decide) (fun hc => ?_) (fun hc => ?_)
        · have hq := tw_if hq hc
          refine lv_iconst (v := (-1)) hx hb dcX6_twoCome_127 (by decide) ?_
          exact ih_4 x1 x2 x3 x4 x5 x6 0 0 r0 (-1) v8 0 z7 H locs ls hr0 hM (lv_sub hl [0, 1, 2, 3, 4, 5, 6] rfl) hq
        · have hq := tw_it hq hc
          refine lv_iconst (v := 1) hx hb dcX6_twoCome_123 (by decide) ?_
          refine lv_goto (tgt := 128) hx hb dcX6_twoCome_124 (by decide) ?_
          exact ih_4 x1 x2 x3 x4 x5 x6 0 0 r0 1 v8 0 z7 H locs ls hr0 hM (lv_sub hl [0, 1, 2, 3, 4, 5, 6] rfl) hq
      · intro x1 x2 x3 x4 x5 x6 x7 x8 r0 t0 t1 t2 z H locs ls hr0 hM hl hq
        have hq : cm_X6_twoCome_4 vl K (c_X6_twoCome vl K k) x1 x2 x3 x4 x5 x6 x7 x8 r0 t0 t1 t2 z = some (r, z1) := hq
        unfold cm_X6_twoCome_4 at hq
        refine uw_iast cX_ok hU hx hb hK hM (cr_X7_2 (cs_X6_4 hr0)) hq dcX6_twoCome_128 (fun z9 H locs hM hq => ?_)
        refine lv_aload_n hx hb dcX6_twoCome_129 rfl (lv_at hl 0 rfl) ?_
        refine vgX6_33 hx hb hT hown hK hM hr0 dcX6_twoCome_130 ?_
        refine vgX6_123 hx hb hT hown hK hM (cs_X6_4 hr0) dcX6_twoCome_133 ?_
        refine lv_aload_n hx hb dcX6_twoCome_136 rfl (lv_at hl 0 rfl) ?_
        refine vgX6_29 hx hb hT hown hK hM hr0 dcX6_twoCome_137 ?_
        refine vgX6_81 hx hb hT hown hK hM (cs_X6_3 hr0) hq dcX6_twoCome_140 (fun v10 hq => ?_)
        refine lv_iconst (v := 1) hx hb dcX6_twoCome_143 (by decide) ?_
        refine lv_iadd hx hb dcX6_twoCome_144 ?_
        refine lv_iload_n hx hb dcX6_twoCome_145 rfl (lv_at hl 3 rfl) ?_
        refine lv_iconst (v := 1) hx hb dcX6_twoCome_146 (by decide) ?_
        refine lv_iand hx hb dcX6_twoCome_147 ?_
        refine lv_if_ne (tgt := 155) hx hb dcX6_twoCome_148 (by decide) (fun hc => ?_) (fun hc => ?_)
        · have hq := tw_if hq hc
          refine lv_iconst (v := 1) hx hb dcX6_twoCome_155 (by decide) ?_
          exact ih_5 x1 x2 x3 x4 x5 x6 0 0 r0 1 (v10 + 1) 0 z9 H locs ls hr0 hM (lv_sub hl [0, 1, 2, 3, 4, 5, 6] rfl) hq
        · have hq := tw_it hq hc
          refine lv_iconst (v := (-1)) hx hb dcX6_twoCome_151 (by decide) ?_
          refine lv_goto (tgt := 156) hx hb dcX6_twoCome_152 (by decide) ?_
          exact ih_5 x1 x2 x3 x4 x5 x6 0 0 r0 (-1) (v10 + 1) 0 z9 H locs ls hr0 hM (lv_sub hl [0, 1, 2, 3, 4, 5, 6] rfl) hq
      · intro x1 x2 x3 x4 x5 x6 x7 x8 r0 t0 t1 t2 z H locs ls hr0 hM hl hq
        have hq : cm_X6_twoCome_5 vl K (c_X6_twoCome vl K k) x1 x2 x3 x4 x5 x6 x7 x8 r0 t0 t1 t2 z = some (r, z1) := hq
        unfold cm_X6_twoCome_5 at hq
        refine uw_iast cX_ok hU hx hb hK hM (cr_X7_2 (cs_X6_4 hr0)) hq dcX6_twoCome_156 (fun z11 H locs hM hq => ?_)
        refine lv_aload_n hx hb dcX6_twoCome_157 rfl (lv_at hl 0 rfl) ?_
        refine lv_iload_n hx hb dcX6_twoCome_158 rfl (lv_at hl 1 rfl) ?_
        refine lv_iload hx hb dcX6_twoCome_159 (lv_at hl 4 rfl) ?_
        refine lv_icmp_ne (tgt := 168) hx hb dcX6_twoCome_161 (by decide) (fun hc => ?_) (fun hc => ?_)
        · have hq := tw_if hq hc
          refine lv_iload_n hx hb dcX6_twoCome_168 rfl (lv_at hl 1 rfl) ?_
          exact ih_6 x1 x2 x3 x4 x5 x6 0 0 r0 x1 0 0 z11 H locs ls hr0 hM (lv_sub hl [0, 1, 2, 3, 4, 5, 6] rfl) hq
        · have hq := tw_it hq hc
          refine lv_iconst (v := (-1)) hx hb dcX6_twoCome_164 (by decide) ?_
          refine lv_goto (tgt := 169) hx hb dcX6_twoCome_165 (by decide) ?_
          exact ih_6 x1 x2 x3 x4 x5 x6 0 0 r0 (-1) 0 0 z11 H locs ls hr0 hM (lv_sub hl [0, 1, 2, 3, 4, 5, 6] rfl) hq
      · intro x1 x2 x3 x4 x5 x6 x7 x8 r0 t0 t1 t2 z H locs ls hr0 hM hl hq
        have hq : cm_X6_twoCome_6 vl K (c_X6_twoCome vl K k) x1 x2 x3 x4 x5 x6 x7 x8 r0 t0 t1 t2 z = some (r, z1) := hq
        unfold cm_X6_twoCome_6 at hq
        refine lv_iload hx hb dcX6_twoCome_169 (lv_at hl 4 rfl) ?_
        refine lv_iload hx hb dcX6_twoCome_171 (lv_at hl 5 rfl) ?_
        obtain ⟨z12, hcq, hq⟩ := tw_cl0 hq
        refine uw_calv hU hM (va_runV (As := [.int t0, .int x4, .int x5]) (rest := []) ⟨hx, hb, hml, hown, hts⟩ (kc_X6_placePair l D q vl u hU.1 K r0 t0 x4 x5 hr0 z z12 hcq) (cwV 3 hts (tw_gV wC_good xq_500 xq_501 xq_502 xq_146 xq_503) rfl rfl rfl cdd_X6_placePair ⟨(Nat.le_of_ble_eq_true rfl), (Nat.le_of_ble_eq_true rfl)⟩) (cw_preV hK hM (co_X6 hr0) rfl) rfl rfl hl.1 rfl (lv_room (Nat.le_of_ble_eq_true rfl)) dcX6_twoCome_173 ⟨(Nat.le_of_ble_eq_true rfl), (Nat.le_of_ble_eq_true rfl)⟩) (fun H locs hM => ?_)
        refine lv_iload_n hx hb dcX6_twoCome_176 rfl (lv_at hl 3 rfl) ?_
        refine lv_iconst (v := 2) hx hb dcX6_twoCome_177 (by decide) ?_
        refine lv_iand hx hb dcX6_twoCome_178 ?_
        refine lv_if_ne (tgt := 186) hx hb dcX6_twoCome_179 (by decide) (fun hc => ?_) (fun hc => ?_)
        · have hq := tw_if hq hc
          refine lv_iconst (v := 0) hx hb dcX6_twoCome_186 (by decide) ?_
          exact ih_7 x1 x2 x3 x4 x5 x6 0 0 r0 0 0 0 z12 H locs ls hr0 hM (lv_sub hl [0, 1, 2, 3, 4, 5, 6] rfl) hq
        · have hq := tw_it hq hc
          refine lv_iconst (v := 1) hx hb dcX6_twoCome_182 (by decide) ?_
          refine lv_goto (tgt := 187) hx hb dcX6_twoCome_183 (by decide) ?_
          exact ih_7 x1 x2 x3 x4 x5 x6 0 0 r0 1 0 0 z12 H locs ls hr0 hM (lv_sub hl [0, 1, 2, 3, 4, 5, 6] rfl) hq
      · intro x1 x2 x3 x4 x5 x6 x7 x8 r0 t0 t1 t2 z H locs ls hr0 hM hl hq
        have hq : cm_X6_twoCome_7 vl K (c_X6_twoCome vl K k) x1 x2 x3 x4 x5 x6 x7 x8 r0 t0 t1 t2 z = some (r, z1) := hq
        unfold cm_X6_twoCome_7 at hq
        refine lv_istore (lv' := [(7, .int t0), (0, .ref (u r0)), (1, .int x1), (2, .int x2), (3, .int x3), (4, .int x4), (5, .int x5), (6, .int x6)]) hx hb dcX6_twoCome_187 hl (by decide) rfl (fun ls hl => ?_)
        refine lv_iload_n hx hb dcX6_twoCome_189 rfl (lv_at hl 3 rfl) ?_
        refine lv_iload hx hb dcX6_twoCome_190 (lv_at hl 5 rfl) ?_
        refine lv_icmp_ge (tgt := 199) hx hb dcX6_twoCome_192 (by decide) (fun hc => ?_) (fun hc => ?_)
        · have hq := tw_it hq hc
          refine lv_iload_n hx hb dcX6_twoCome_199 rfl (lv_at hl 3 rfl) ?_
          refine lv_iload hx hb dcX6_twoCome_200 (lv_at hl 5 rfl) ?_
          refine lv_icmp_ne (tgt := 210) hx hb dcX6_twoCome_202 (by decide) (fun hc => ?_) (fun hc => ?_)
          · have hq := tw_if hq hc
            refine lv_iconst (v := (-1)) hx hb dcX6_twoCome_210 (by decide) ?_
            exact ih_8 x1 x2 x3 x4 x5 x6 t0 0 r0 (-1) 0 0 z H locs ls hr0 hM (lv_sub hl [1, 2, 3, 4, 5, 6, 7, 0] rfl) hq
          · have hq := tw_it hq hc
            refine lv_iload hx hb dcX6_twoCome_205 (lv_at hl 6 rfl) ?_
            refine lv_goto (tgt := 211) hx hb dcX6_twoCome_207 (by decide) ?_
            exact ih_8 x1 x2 x3 x4 x5 x6 t0 0 r0 x5 0 0 z H locs ls hr0 hM (lv_sub hl [1, 2, 3, 4, 5, 6, 7, 0] rfl) hq
        · have hq := tw_if hq hc
          refine lv_iload_n hx hb dcX6_twoCome_195 rfl (lv_at hl 3 rfl) ?_
          refine lv_goto (tgt := 211) hx hb dcX6_twoCome_196 (by decide) ?_
          exact ih_8 x1 x2 x3 x4 x5 x6 t0 0 r0 x2 0 0 z H locs ls hr0 hM (lv_sub hl [1, 2, 3, 4, 5, 6, 7, 0] rfl) hq
      · intro x1 x2 x3 x4 x5 x6 x7 x8 r0 t0 t1 t2 z H locs ls hr0 hM hl hq
        have hq : cm_X6_twoCome_8 vl K (c_X6_twoCome vl K k) x1 x2 x3 x4 x5 x6 x7 x8 r0 t0 t1 t2 z = some (r, z1) := hq
        unfold cm_X6_twoCome_8 at hq
        refine lv_istore (lv' := [(8, .int t0), (0, .ref (u r0)), (1, .int x1), (2, .int x2), (3, .int x3), (4, .int x4), (5, .int x5), (6, .int x6), (7, .int x7)]) hx hb dcX6_twoCome_211 hl (by decide) rfl (fun ls hl => ?_)
        refine lv_aload_n hx hb dcX6_twoCome_213 rfl (lv_at hl 1 rfl) ?_
        refine lv_iload hx hb dcX6_twoCome_214 (lv_at hl 0 rfl) ?_
        refine lv_iload hx hb dcX6_twoCome_216 (lv_at hl 8 rfl) ?_
        refine lv_if_eq (tgt := 228) hx hb dcX6_twoCome_218 (by decide) (fun hc => ?_) (fun hc => ?_)
        · have hq := tw_it hq hc
          refine lv_iload hx hb dcX6_twoCome_228 (lv_at hl 6 rfl) ?_
          refine lv_iconst (v := 1) hx hb dcX6_twoCome_230 (by decide) ?_
          refine lv_iadd hx hb dcX6_twoCome_231 ?_
          exact ih_9 x1 x2 x3 x4 x5 x6 x7 t0 r0 (x5 + 1) t0 0 z H locs ls hr0 hM (lv_sub hl [1, 2, 3, 4, 5, 6, 7, 8, 0] rfl) hq
        · have hq := tw_if hq hc
          refine lv_iload hx hb dcX6_twoCome_221 (lv_at hl 5 rfl) ?_
          refine lv_iconst (v := 1) hx hb dcX6_twoCome_223 (by decide) ?_
          refine lv_iadd hx hb dcX6_twoCome_224 ?_
          refine lv_goto (tgt := 232) hx hb dcX6_twoCome_225 (by decide) ?_
          exact ih_9 x1 x2 x3 x4 x5 x6 x7 t0 r0 (x4 + 1) t0 0 z H locs ls hr0 hM (lv_sub hl [1, 2, 3, 4, 5, 6, 7, 8, 0] rfl) hq
      · intro x1 x2 x3 x4 x5 x6 x7 x8 r0 t0 t1 t2 z H locs ls hr0 hM hl hq
        have hq : cm_X6_twoCome_9 vl K (c_X6_twoCome vl K k) x1 x2 x3 x4 x5 x6 x7 x8 r0 t0 t1 t2 z = some (r, z1) := hq
        unfold cm_X6_twoCome_9 at hq
        refine lv_iload hx hb dcX6_twoCome_232 (lv_at hl 7 rfl) ?_
        refine lv_if_eq (tgt := 244) hx hb dcX6_twoCome_234 (by decide) (fun hc => ?_) (fun hc => ?_)
        · have hq := tw_it hq hc
          refine lv_iload hx hb dcX6_twoCome_244 (lv_at hl 4 rfl) ?_
          refine lv_iconst (v := 1) hx hb dcX6_twoCome_246 (by decide) ?_
          refine lv_iadd hx hb dcX6_twoCome_247 ?_
          exact ih_10 x1 x2 x3 x4 x5 x6 x7 x8 r0 (x4 + 1) t0 t1 z H locs ls hr0 hM (lv_sub hl [0, 1, 2, 3, 4, 5, 6, 7, 8] rfl) hq
        · have hq := tw_if hq hc
          refine lv_iload hx hb dcX6_twoCome_237 (lv_at hl 5 rfl) ?_
          refine lv_iconst (v := 1) hx hb dcX6_twoCome_239 (by decide) ?_
          refine lv_iadd hx hb dcX6_twoCome_240 ?_
          refine lv_goto (tgt := 248) hx hb dcX6_twoCome_241 (by decide) ?_
          exact ih_10 x1 x2 x3 x4 x5 x6 x7 x8 r0 (x5 + 1) t0 t1 z H locs ls hr0 hM (lv_sub hl [0, 1, 2, 3, 4, 5, 6, 7, 8] rfl) hq
      · intro x1 x2 x3 x4 x5 x6 x7 x8 r0 t0 t1 t2 z H locs ls hr0 hM hl hq
        have hq : cm_X6_twoCome_10 vl K (c_X6_twoCome vl K k) x1 x2 x3 x4 x5 x6 x7 x8 r0 t0 t1 t2 z = some (r, z1) := hq
        unfold cm_X6_twoCome_10 at hq
        obtain ⟨z13, hcq, hq⟩ := tw_cl0 hq
        refine uw_calv hU hM (va_runV (As := [.int t2, .int t1, .int t0]) (rest := []) ⟨hx, hb, hml, hown, hts⟩ (kc_X6_placePair l D q vl u hU.1 K r0 t2 t1 t0 hr0 z z13 hcq) (cwV 3 hts (tw_gV wC_good xq_500 xq_501 xq_502 xq_146 xq_503) rfl rfl rfl cdd_X6_placePair ⟨(Nat.le_of_ble_eq_true rfl), (Nat.le_of_ble_eq_true rfl)⟩) (cw_preV hK hM (co_X6 hr0) rfl) rfl rfl hl.1 rfl (lv_room (Nat.le_of_ble_eq_true rfl)) dcX6_twoCome_248 ⟨(Nat.le_of_ble_eq_true rfl), (Nat.le_of_ble_eq_true rfl)⟩) (fun H locs hM => ?_)
        refine lv_aload_n hx hb dcX6_twoCome_251 rfl (lv_at hl 0 rfl) ?_
        refine vgX6_43 hx hb hT hown hK hM hr0 dcX6_twoCome_252 ?_
        refine lv_aload_n hx hb dcX6_twoCome_255 rfl (lv_at hl 0 rfl) ?_
        refine vgX6_33 hx hb hT hown hK hM hr0 dcX6_twoCome_256 ?_
        obtain ⟨v15, z14, hcq, hq⟩ := tw_cl1 hq
        refine uw_cali hU hM (va_runV (As := [.ref (u (r0 + 5000))]) (rest := []) ⟨hx, hb, hml, hown, hts⟩ (kc_X4_isPlane l D q vl u hU.1 K (r0 + 7000) (r0 + 5000) (cs_X6_6 hr0) (cs_X6_4 hr0) z13 z14 v15 hcq) (cwV 1 hts (tw_gV wC_good xq_528 xq_529 xq_530 xq_350 xq_357) rfl rfl rfl cdd_X4_isPlane ⟨(Nat.le_of_ble_eq_true rfl), (Nat.le_of_ble_eq_true rfl)⟩) (cw_preV hK hM (co_X4 (cs_X6_6 hr0)) rfl) rfl rfl hl.1 rfl (lv_room (Nat.le_of_ble_eq_true rfl)) dcX6_twoCome_259 ⟨(Nat.le_of_ble_eq_true rfl), (Nat.le_of_ble_eq_true rfl)⟩) (fun H locs hM => ?_)
        obtain ⟨hz, hq⟩ := tw_gZ hq
        exact cw_zret hx hb hr hlocks hM hz hq hQQ dcX6_twoCome_262
  exact (key K).1 x1 x2 x3 0 0 0 0 0 r0 0 0 0 z s.heap [] ls hr0 hM (lv_sub hl [0, 1, 2, 3] rfl) hq
theorem dcX6_twoGo_0 : decode cX6_twoGo 0 = .ok (.iload_n 2, 1) := dw_at cX6_twoGo_k0 (p := 0) rfl (by decide +kernel)
theorem dcX6_twoGo_1 : decode cX6_twoGo 1 = .ok (.iload_n 1, 1) := dw_at cX6_twoGo_k0 (p := 1) rfl (by decide +kernel)
theorem dcX6_twoGo_2 : decode cX6_twoGo 2 = .ok (.if_icmp .ge 15, 3) := dw_at cX6_twoGo_k0 (p := 2) rfl (by decide +kernel)
theorem dcX6_twoGo_5 : decode cX6_twoGo 5 = .ok (.aload_n 0, 1) := dw_at cX6_twoGo_k0 (p := 5) rfl (by decide +kernel)
theorem dcX6_twoGo_6 : decode cX6_twoGo 6 = .ok (.getfield 29, 3) := dw_at cX6_twoGo_k0 (p := 6) rfl (by decide +kernel)
theorem dcX6_twoGo_9 : decode cX6_twoGo 9 = .ok (.iload_n 1, 1) := dw_at cX6_twoGo_k0 (p := 9) rfl (by decide +kernel)
theorem dcX6_twoGo_10 : decode cX6_twoGo 10 = .ok (.iload_n 2, 1) := dw_at cX6_twoGo_k0 (p := 10) rfl (by decide +kernel)
theorem dcX6_twoGo_11 : decode cX6_twoGo 11 = .ok (.invokestatic 137, 3) := dw_at cX6_twoGo_k0 (p := 11) rfl (by decide +kernel)
theorem dcX6_twoGo_14 : decode cX6_twoGo 14 = .ok (.ifCond .ne 5, 3) := dw_at cX6_twoGo_k0 (p := 14) rfl (by decide +kernel)
theorem dcX6_twoGo_17 : decode cX6_twoGo 17 = .ok (.iconst 0, 1) := dw_at cX6_twoGo_k0 (p := 17) rfl (by decide +kernel)
theorem dcX6_twoGo_18 : decode cX6_twoGo 18 = .ok (.ireturn, 1) := dw_at cX6_twoGo_k0 (p := 18) rfl (by decide +kernel)
theorem dcX6_twoGo_19 : decode cX6_twoGo 19 = .ok (.aload_n 0, 1) := dw_at cX6_twoGo_k0 (p := 19) rfl (by decide +kernel)
theorem dcX6_twoGo_20 : decode cX6_twoGo 20 = .ok (.getfield 33, 3) := dw_at cX6_twoGo_k0 (p := 20) rfl (by decide +kernel)
theorem dcX6_twoGo_23 : decode cX6_twoGo 23 = .ok (.aload_n 0, 1) := dw_at cX6_twoGo_k0 (p := 23) rfl (by decide +kernel)
theorem dcX6_twoGo_24 : decode cX6_twoGo 24 = .ok (.getfield 29, 3) := dw_at cX6_twoGo_k1 (p := 0) rfl (by decide +kernel)
theorem dcX6_twoGo_27 : decode cX6_twoGo 27 = .ok (.invokevirtual 106, 3) := dw_at cX6_twoGo_k1 (p := 3) rfl (by decide +kernel)
theorem dcX6_twoGo_30 : decode cX6_twoGo 30 = .ok (.aload_n 0, 1) := dw_at cX6_twoGo_k1 (p := 6) rfl (by decide +kernel)
theorem dcX6_twoGo_31 : decode cX6_twoGo 31 = .ok (.getfield 33, 3) := dw_at cX6_twoGo_k1 (p := 7) rfl (by decide +kernel)
theorem dcX6_twoGo_34 : decode cX6_twoGo 34 = .ok (.iload_n 1, 1) := dw_at cX6_twoGo_k1 (p := 10) rfl (by decide +kernel)
theorem dcX6_twoGo_35 : decode cX6_twoGo 35 = .ok (.invokevirtual 109, 3) := dw_at cX6_twoGo_k1 (p := 11) rfl (by decide +kernel)
theorem dcX6_twoGo_38 : decode cX6_twoGo 38 = .ok (.aload_n 0, 1) := dw_at cX6_twoGo_k1 (p := 14) rfl (by decide +kernel)
theorem dcX6_twoGo_39 : decode cX6_twoGo 39 = .ok (.getfield 33, 3) := dw_at cX6_twoGo_k1 (p := 15) rfl (by decide +kernel)
theorem dcX6_twoGo_42 : decode cX6_twoGo 42 = .ok (.iload_n 2, 1) := dw_at cX6_twoGo_k1 (p := 18) rfl (by decide +kernel)
theorem dcX6_twoGo_43 : decode cX6_twoGo 43 = .ok (.invokevirtual 109, 3) := dw_at cX6_twoGo_k1 (p := 19) rfl (by decide +kernel)
theorem dcX6_twoGo_46 : decode cX6_twoGo 46 = .ok (.iconst 1, 1) := dw_at cX6_twoGo_k1 (p := 22) rfl (by decide +kernel)
theorem dcX6_twoGo_47 : decode cX6_twoGo 47 = .ok (.ireturn, 1) := dw_at cX6_twoGo_k1 (p := 23) rfl (by decide +kernel)
def cm_X6_twoGo_0 (vl : Nat → Nat) (K : Nat) (x1 : Int32) (x2 : Int32) (r0 : Nat) (z : ow_MS) : Option (Int32 × ow_MS) :=
 (if x1 ≤ x2 then okZ 0 (some (0, z))
 else cs1 (ce_X6_isPair vl K (r0 + 4000) x1 x2 z) fun v2 z1 => (if v2 = 0 then okZ 0 (some (0, z1))
 else cs0 (ce_X7_copy vl K (r0 + 5000) (r0 + 4000) z1) fun z3 => cs0 (ce_X7_removeCrossing vl K (r0 + 5000) x1 z3) fun z4 => cs0 (ce_X7_removeCrossing vl K (r0 + 5000) x2 z4) fun z5 => okZ 1 (some (1, z5))))
def ce_X6_twoGo (vl : Nat → Nat) (K : Nat) (r0 : Nat) (x1 : Int32) (x2 : Int32) (z : ow_MS) : Option (Int32 × ow_MS) := cm_X6_twoGo_0 vl K x1 x2 r0 z
abbrev wc_X6_twoGo : List Cond := .code yX6_twoGo cX6_twoGo 3 (some .boolean) :: wC
theorem cdd_X6_twoGo : yX6_twoGo.cls = RX6 ∧ yX6_twoGo.cls ≠ "java/lang/invoke/MethodHandle" ∧ yX6_twoGo.cls ≠ "java/lang/invoke/VarHandle" ∧ (parseMethodDescriptor yX6_twoGo.desc).map (fun d => d.parameters.length) = some 2 := by decide +kernel
set_option maxHeartbeats 4000000 in
set_option maxRecDepth 100000 in
theorem kc_X6_twoGo (l : Launch) (D : va_G) (q : Nat → ClassId) (vl u : Nat → Nat) (hU0 : tw_inj (cX vl) u) (K : Nat) (r0 : Nat) (x1 : Int32) (x2 : Int32) (hr0 : cw_X6 r0) (z z1 : ow_MS) (r : Int32) (hq : ce_X6_twoGo vl K r0 x1 x2 z = some (r, z1)) : Met l yX6_twoGo wc_X6_twoGo ({ frames := 3, cells := 0, slots := 0, locals := 81 } : Room) (va_Pc [.ref (u r0), .int x1, .int x2] (cw_pre D q vl u z)) (va_Qi (fun x (_ : Unit) => x = r) (fun _ t => va_P D vwCl (uw (cX vl) q u z1) t.heap) (tw_A (cX vl) u)) 0 0 (tw_A (cX vl) u) := by
  refine Met.ofW (cc := cX6_twoGo) (maxL := 3) (ret := (some .boolean)) (by decide) rfl ?_
  intro p e s m args below meth c s₁ B hml hv
  obtain ⟨rfl, hP, hK⟩ := hv
  have hx := B.exec
  have hb := B.bytes
  have hr := B.returns
  have hts := atoms_spec (ws := wc_X6_twoGo) B.pre
  have hT : ∀ w ∈ wC, w.before ([.ref (u r0), .int x1, .int x2] : List Value).toArray s = true := fun w h => hts w (List.mem_cons_of_mem _ h)
  have hown : s.vm.findClass RX6 = some m.cls := findClass_of_methodNamed B.named
  have hlocks := B.notSynchronized
  have hU : uw_inj (cX vl) u (tw_A (cX vl) u) := ⟨hU0, fun h hh => ⟨h, hh, rfl⟩⟩
  have hM : uw_M D vwCl (cX vl) q (tw_A (cX vl) u) s.heap u z s.heap [] := ⟨hP, va_S.rf⟩
  have hl := lv_entry ([.ref (u r0), .int x1, .int x2]) (n := 3) (Nat.le_of_ble_eq_true rfl)
  rw [lg_entry_eq]
  generalize (lg_sl ([.ref (u r0), .int x1, .int x2]) ++ List.replicate (3 - (lg_sl ([.ref (u r0), .int x1, .int x2])).length) Slot.unset).toArray = ls at hl ⊢
  have hl : lv_has ls 3 [(0, .ref (u r0)), (1, .int x1), (2, .int x2)] := hl
  refine ow_named (fun QQ hQQ => ?_)
  generalize ([.ref (u r0), .int x1, .int x2] : List Value).toArray = args at hts hT hQQ ⊢
  have hq : cm_X6_twoGo_0 vl K x1 x2 r0 z = some (r, z1) := hq
  unfold cm_X6_twoGo_0 at hq
  suffices key : ∀ (H : Heap) (locs : List Loc), uw_M D vwCl (cX vl) q (tw_A (cX vl) u) s.heap u z H locs → W p l e ({ frames := 3, cells := 0, slots := 0, locals := 81 } : Room) s m args below meth c H locs 0 0 QQ (F0 m 0 ls []) from key s.heap [] hM
  intro H locs hM
  refine lv_iload_n hx hb dcX6_twoGo_0 rfl (lv_at hl 2 rfl) ?_
  refine lv_iload_n hx hb dcX6_twoGo_1 rfl (lv_at hl 1 rfl) ?_
  refine lv_icmp_ge (tgt := 17) hx hb dcX6_twoGo_2 (by decide) (fun hc => ?_) (fun hc => ?_)
  · have hq := tw_it hq hc
    refine lv_iconst (v := 0) hx hb dcX6_twoGo_17 (by decide) ?_
    obtain ⟨hz, hq⟩ := tw_gZ hq
    exact cw_zret hx hb hr hlocks hM hz hq hQQ dcX6_twoGo_18
  · have hq := tw_if hq hc
    refine lv_aload_n hx hb dcX6_twoGo_5 rfl (lv_at hl 0 rfl) ?_
    refine vgX6_29 hx hb hT hown hK hM hr0 dcX6_twoGo_6 ?_
    refine lv_iload_n hx hb dcX6_twoGo_9 rfl (lv_at hl 1 rfl) ?_
    refine lv_iload_n hx hb dcX6_twoGo_10 rfl (lv_at hl 2 rfl) ?_
    obtain ⟨v2, z1, hcq, hq⟩ := tw_cl1 hq
    refine uw_cali hU hM (va_runS (As := [.ref (u (r0 + 4000)), .int x1, .int x2]) (rest := []) ⟨hx, hb, hml, hown, hts⟩ (kc_X6_isPair l D q vl u hU.1 K (r0 + 4000) x1 x2 (cs_X6_3 hr0) z z1 v2 hcq) (va_cwS 3 hts (tw_gS wC_good xq_516 xq_169 xq_146 xq_170) rfl rfl rfl cdd_X6_isPair ⟨(Nat.le_of_ble_eq_true rfl), (Nat.le_of_ble_eq_true rfl)⟩) (cw_preS hK hM) rfl rfl hl.1 rfl (lv_room (Nat.le_of_ble_eq_true rfl)) dcX6_twoGo_11 ⟨(Nat.le_of_ble_eq_true rfl), (Nat.le_of_ble_eq_true rfl)⟩) (fun H locs hM => ?_)
    refine lv_if_ne (tgt := 19) hx hb dcX6_twoGo_14 (by decide) (fun hc => ?_) (fun hc => ?_)
    · have hq := tw_if hq hc
      refine lv_aload_n hx hb dcX6_twoGo_19 rfl (lv_at hl 0 rfl) ?_
      refine vgX6_33 hx hb hT hown hK hM hr0 dcX6_twoGo_20 ?_
      refine lv_aload_n hx hb dcX6_twoGo_23 rfl (lv_at hl 0 rfl) ?_
      refine vgX6_29 hx hb hT hown hK hM hr0 dcX6_twoGo_24 ?_
      obtain ⟨z3, hcq, hq⟩ := tw_cl0 hq
      refine uw_calv hU hM (va_runV (As := [.ref (u (r0 + 4000))]) (rest := []) ⟨hx, hb, hml, hown, hts⟩ (kc_X7_copy l D q vl u hU.1 K (r0 + 5000) (r0 + 4000) (cs_X6_4 hr0) (cs_X6_3 hr0) z1 z3 hcq) (cwV 1 hts (tw_gV wC_good xq_493 xq_125 xq_126 xq_54 xq_127) rfl rfl rfl cdd_X7_copy ⟨(Nat.le_of_ble_eq_true rfl), (Nat.le_of_ble_eq_true rfl)⟩) (cw_preV hK hM (co_X7 (cs_X6_4 hr0)) rfl) rfl rfl hl.1 rfl (lv_room (Nat.le_of_ble_eq_true rfl)) dcX6_twoGo_27 ⟨(Nat.le_of_ble_eq_true rfl), (Nat.le_of_ble_eq_true rfl)⟩) (fun H locs hM => ?_)
      refine lv_aload_n hx hb dcX6_twoGo_30 rfl (lv_at hl 0 rfl) ?_
      refine vgX6_33 hx hb hT hown hK hM hr0 dcX6_twoGo_31 ?_
      refine lv_iload_n hx hb dcX6_twoGo_34 rfl (lv_at hl 1 rfl) ?_
      obtain ⟨z4, hcq, hq⟩ := tw_cl0 hq
      refine uw_calv hU hM (va_runV (As := [.int x1]) (rest := []) ⟨hx, hb, hml, hown, hts⟩ (kc_X7_removeCrossing l D q vl u hU.1 K (r0 + 5000) x1 (cs_X6_4 hr0) z3 z4 hcq) (cwV 1 hts (tw_gV wC_good xq_494 xq_153 xq_154 xq_54 xq_155) rfl rfl rfl cdd_X7_removeCrossing ⟨(Nat.le_of_ble_eq_true rfl), (Nat.le_of_ble_eq_true rfl)⟩) (cw_preV hK hM (co_X7 (cs_X6_4 hr0)) rfl) rfl rfl hl.1 rfl (lv_room (Nat.le_of_ble_eq_true rfl)) dcX6_twoGo_35 ⟨(Nat.le_of_ble_eq_true rfl), (Nat.le_of_ble_eq_true rfl)⟩) (fun H locs hM => ?_)
      refine lv_aload_n hx hb dcX6_twoGo_38 rfl (lv_at hl 0 rfl) ?_
      refine vgX6_33 hx hb hT hown hK hM hr0 dcX6_twoGo_39 ?_
      refine lv_iload_n hx hb dcX6_twoGo_42 rfl (lv_at hl 2 rfl) ?_
      obtain ⟨z5, hcq, hq⟩ := tw_cl0 hq
      refine uw_calv hU hM (va_runV (As := [.int x2]) (rest := []) ⟨hx, hb, hml, hown, hts⟩ (kc_X7_removeCrossing l D q vl u hU.1 K (r0 + 5000) x2 (cs_X6_4 hr0) z4 z5 hcq) (cwV 1 hts (tw_gV wC_good xq_494 xq_153 xq_154 xq_54 xq_155) rfl rfl rfl cdd_X7_removeCrossing ⟨(Nat.le_of_ble_eq_true rfl), (Nat.le_of_ble_eq_true rfl)⟩) (cw_preV hK hM (co_X7 (cs_X6_4 hr0)) rfl) rfl rfl hl.1 rfl (lv_room (Nat.le_of_ble_eq_true rfl)) dcX6_twoGo_43 ⟨(Nat.le_of_ble_eq_true rfl), (Nat.le_of_ble_eq_true rfl)⟩) (fun H locs hM => ?_)
      refine lv_iconst (v := 1) hx hb dcX6_twoGo_46 (by decide) ?_
      obtain ⟨hz, hq⟩ := tw_gZ hq
      exact cw_zret hx hb hr hlocks hM hz hq hQQ dcX6_twoGo_47
    · have hq := tw_it hq hc
      refine lv_iconst (v := 0) hx hb dcX6_twoGo_17 (by decide) ?_
      obtain ⟨hz, hq⟩ := tw_gZ hq
      exact cw_zret hx hb hr hlocks hM hz hq hQQ dcX6_twoGo_18
theorem dcX6_make_0 : decode cX6_make 0 = .ok (.iload_n 1, 1) := dw_at cX6_make_k0 (p := 0) rfl (by decide +kernel)
theorem dcX6_make_1 : decode cX6_make 1 = .ok (.tableswitch 119 0 3 #[31, 37, 48, 89], 31) := by decide +kernel
theorem dcX6_make_32 : decode cX6_make 32 = .ok (.aload_n 0, 1) := dw_at cX6_make_k1 (p := 0) rfl (by decide +kernel)
theorem dcX6_make_33 : decode cX6_make 33 = .ok (.iload_n 2, 1) := dw_at cX6_make_k1 (p := 1) rfl (by decide +kernel)
theorem dcX6_make_34 : decode cX6_make 34 = .ok (.invokevirtual 85, 3) := dw_at cX6_make_k1 (p := 2) rfl (by decide +kernel)
theorem dcX6_make_37 : decode cX6_make 37 = .ok (.ireturn, 1) := dw_at cX6_make_k1 (p := 5) rfl (by decide +kernel)
theorem dcX6_make_38 : decode cX6_make 38 = .ok (.aload_n 0, 1) := dw_at cX6_make_k1 (p := 6) rfl (by decide +kernel)
theorem dcX6_make_39 : decode cX6_make 39 = .ok (.iload_n 2, 1) := dw_at cX6_make_k1 (p := 7) rfl (by decide +kernel)
theorem dcX6_make_40 : decode cX6_make 40 = .ok (.iconst 2, 1) := dw_at cX6_make_k1 (p := 8) rfl (by decide +kernel)
theorem dcX6_make_41 : decode cX6_make 41 = .ok (.ishr, 1) := dw_at cX6_make_k1 (p := 9) rfl (by decide +kernel)
theorem dcX6_make_42 : decode cX6_make 42 = .ok (.iload_n 2, 1) := dw_at cX6_make_k1 (p := 10) rfl (by decide +kernel)
theorem dcX6_make_43 : decode cX6_make 43 = .ok (.iconst 3, 1) := dw_at cX6_make_k1 (p := 11) rfl (by decide +kernel)
theorem dcX6_make_44 : decode cX6_make 44 = .ok (.iand, 1) := dw_at cX6_make_k1 (p := 12) rfl (by decide +kernel)
theorem dcX6_make_45 : decode cX6_make 45 = .ok (.invokevirtual 89, 3) := dw_at cX6_make_k1 (p := 13) rfl (by decide +kernel)
theorem dcX6_make_48 : decode cX6_make 48 = .ok (.ireturn, 1) := dw_at cX6_make_k1 (p := 16) rfl (by decide +kernel)
theorem dcX6_make_49 : decode cX6_make 49 = .ok (.aload_n 0, 1) := dw_at cX6_make_k1 (p := 17) rfl (by decide +kernel)
theorem dcX6_make_50 : decode cX6_make 50 = .ok (.getfield 29, 3) := dw_at cX6_make_k1 (p := 18) rfl (by decide +kernel)
theorem dcX6_make_53 : decode cX6_make 53 = .ok (.getfield 81, 3) := dw_at cX6_make_k1 (p := 21) rfl (by decide +kernel)
theorem dcX6_make_56 : decode cX6_make 56 = .ok (.ifCond .le 32, 3) := dw_at cX6_make_k2 (p := 0) rfl (by decide +kernel)
theorem dcX6_make_59 : decode cX6_make 59 = .ok (.aload_n 0, 1) := dw_at cX6_make_k2 (p := 3) rfl (by decide +kernel)
theorem dcX6_make_60 : decode cX6_make 60 = .ok (.iload_n 2, 1) := dw_at cX6_make_k2 (p := 4) rfl (by decide +kernel)
theorem dcX6_make_61 : decode cX6_make 61 = .ok (.aload_n 0, 1) := dw_at cX6_make_k2 (p := 5) rfl (by decide +kernel)
theorem dcX6_make_62 : decode cX6_make 62 = .ok (.getfield 29, 3) := dw_at cX6_make_k2 (p := 6) rfl (by decide +kernel)
theorem dcX6_make_65 : decode cX6_make 65 = .ok (.getfield 81, 3) := dw_at cX6_make_k2 (p := 9) rfl (by decide +kernel)
theorem dcX6_make_68 : decode cX6_make 68 = .ok (.idiv, 1) := dw_at cX6_make_k2 (p := 12) rfl (by decide +kernel)
theorem dcX6_make_69 : decode cX6_make 69 = .ok (.iload_n 2, 1) := dw_at cX6_make_k2 (p := 13) rfl (by decide +kernel)
theorem dcX6_make_70 : decode cX6_make 70 = .ok (.aload_n 0, 1) := dw_at cX6_make_k2 (p := 14) rfl (by decide +kernel)
theorem dcX6_make_71 : decode cX6_make 71 = .ok (.getfield 29, 3) := dw_at cX6_make_k2 (p := 15) rfl (by decide +kernel)
theorem dcX6_make_74 : decode cX6_make 74 = .ok (.getfield 81, 3) := dw_at cX6_make_k2 (p := 18) rfl (by decide +kernel)
theorem dcX6_make_77 : decode cX6_make 77 = .ok (.irem, 1) := dw_at cX6_make_k2 (p := 21) rfl (by decide +kernel)
theorem dcX6_make_78 : decode cX6_make 78 = .ok (.invokevirtual 92, 3) := dw_at cX6_make_k2 (p := 22) rfl (by decide +kernel)
theorem dcX6_make_81 : decode cX6_make 81 = .ok (.ifCond .eq 7, 3) := dw_at cX6_make_k3 (p := 0) rfl (by decide +kernel)
theorem dcX6_make_84 : decode cX6_make 84 = .ok (.iconst 1, 1) := dw_at cX6_make_k3 (p := 3) rfl (by decide +kernel)
theorem dcX6_make_85 : decode cX6_make 85 = .ok (.goto 4, 3) := dw_at cX6_make_k3 (p := 4) rfl (by decide +kernel)
theorem dcX6_make_88 : decode cX6_make 88 = .ok (.iconst 0, 1) := dw_at cX6_make_k3 (p := 7) rfl (by decide +kernel)
theorem dcX6_make_89 : decode cX6_make 89 = .ok (.ireturn, 1) := dw_at cX6_make_k3 (p := 8) rfl (by decide +kernel)
theorem dcX6_make_90 : decode cX6_make 90 = .ok (.iconst 2, 1) := dw_at cX6_make_k3 (p := 9) rfl (by decide +kernel)
theorem dcX6_make_91 : decode cX6_make 91 = .ok (.aload_n 0, 1) := dw_at cX6_make_k3 (p := 10) rfl (by decide +kernel)
theorem dcX6_make_92 : decode cX6_make 92 = .ok (.getfield 29, 3) := dw_at cX6_make_k3 (p := 11) rfl (by decide +kernel)
theorem dcX6_make_95 : decode cX6_make 95 = .ok (.getfield 81, 3) := dw_at cX6_make_k3 (p := 14) rfl (by decide +kernel)
theorem dcX6_make_98 : decode cX6_make 98 = .ok (.imul, 1) := dw_at cX6_make_k3 (p := 17) rfl (by decide +kernel)
theorem dcX6_make_99 : decode cX6_make 99 = .ok (.iconst 2, 1) := dw_at cX6_make_k3 (p := 18) rfl (by decide +kernel)
theorem dcX6_make_100 : decode cX6_make 100 = .ok (.iadd, 1) := dw_at cX6_make_k3 (p := 19) rfl (by decide +kernel)
theorem dcX6_make_101 : decode cX6_make 101 = .ok (.istore_n 3, 1) := dw_at cX6_make_k3 (p := 20) rfl (by decide +kernel)
theorem dcX6_make_102 : decode cX6_make 102 = .ok (.aload_n 0, 1) := dw_at cX6_make_k3 (p := 21) rfl (by decide +kernel)
theorem dcX6_make_103 : decode cX6_make 103 = .ok (.iload_n 2, 1) := dw_at cX6_make_k3 (p := 22) rfl (by decide +kernel)
theorem dcX6_make_104 : decode cX6_make 104 = .ok (.iconst 2, 1) := dw_at cX6_make_k3 (p := 23) rfl (by decide +kernel)
theorem dcX6_make_105 : decode cX6_make 105 = .ok (.ishr, 1) := dw_at cX6_make_k4 (p := 0) rfl (by decide +kernel)
theorem dcX6_make_106 : decode cX6_make 106 = .ok (.iload_n 3, 1) := dw_at cX6_make_k4 (p := 1) rfl (by decide +kernel)
theorem dcX6_make_107 : decode cX6_make 107 = .ok (.idiv, 1) := dw_at cX6_make_k4 (p := 2) rfl (by decide +kernel)
theorem dcX6_make_108 : decode cX6_make 108 = .ok (.iload_n 2, 1) := dw_at cX6_make_k4 (p := 3) rfl (by decide +kernel)
theorem dcX6_make_109 : decode cX6_make 109 = .ok (.iconst 2, 1) := dw_at cX6_make_k4 (p := 4) rfl (by decide +kernel)
theorem dcX6_make_110 : decode cX6_make 110 = .ok (.ishr, 1) := dw_at cX6_make_k4 (p := 5) rfl (by decide +kernel)
theorem dcX6_make_111 : decode cX6_make 111 = .ok (.iload_n 3, 1) := dw_at cX6_make_k4 (p := 6) rfl (by decide +kernel)
theorem dcX6_make_112 : decode cX6_make 112 = .ok (.irem, 1) := dw_at cX6_make_k4 (p := 7) rfl (by decide +kernel)
theorem dcX6_make_113 : decode cX6_make 113 = .ok (.iload_n 2, 1) := dw_at cX6_make_k4 (p := 8) rfl (by decide +kernel)
theorem dcX6_make_114 : decode cX6_make 114 = .ok (.iconst 3, 1) := dw_at cX6_make_k4 (p := 9) rfl (by decide +kernel)
theorem dcX6_make_115 : decode cX6_make 115 = .ok (.iand, 1) := dw_at cX6_make_k4 (p := 10) rfl (by decide +kernel)
theorem dcX6_make_116 : decode cX6_make 116 = .ok (.invokevirtual 95, 3) := dw_at cX6_make_k4 (p := 11) rfl (by decide +kernel)
theorem dcX6_make_119 : decode cX6_make 119 = .ok (.ireturn, 1) := dw_at cX6_make_k4 (p := 14) rfl (by decide +kernel)
theorem dcX6_make_120 : decode cX6_make 120 = .ok (.aload_n 0, 1) := dw_at cX6_make_k4 (p := 15) rfl (by decide +kernel)
theorem dcX6_make_121 : decode cX6_make 121 = .ok (.iload_n 2, 1) := dw_at cX6_make_k4 (p := 16) rfl (by decide +kernel)
theorem dcX6_make_122 : decode cX6_make 122 = .ok (.invokevirtual 99, 3) := dw_at cX6_make_k4 (p := 17) rfl (by decide +kernel)
theorem dcX6_make_125 : decode cX6_make 125 = .ok (.ireturn, 1) := dw_at cX6_make_k4 (p := 20) rfl (by decide +kernel)
def cm_X6_make_0 (vl : Nat → Nat) (K : Nat) (x1 : Int32) (x2 : Int32) (r0 : Nat) (z : ow_MS) : Option (Int32 × ow_MS) :=
 (if x1.toInt < 0 ∨ 3 < x1.toInt then cs1 (ce_X6_threePass vl K r0 x2 z) fun v2 z1 => okZ v2 (some (v2, z1))
 else (if x1 = 0 then cs1 (ce_X6_oneGoes vl K r0 x2 z) fun v4 z3 => okZ v4 (some (v4, z3))
 else (if x1 = 1 then cs1 (ce_X6_oneComes vl K r0 ((x2 : Int32) >>> ((2 : Int32) &&& 31)) (x2 &&& 3) z) fun v6 z5 => okZ v6 (some (v6, z5))
 else (if x1 = 2 then rdF z ((r0 + 4000) + 8) fun v7 => (if v7 ≤ 0 then okZ 0 (some (0, z))
 else rdF z ((r0 + 4000) + 8) fun v8 => nzI v8 (rdF z ((r0 + 4000) + 8) fun v9 => nzI v9 (cs1 (ce_X6_twoGo vl K r0 (x2 / v8) (x2 - x2 / v9 * v9) z) fun v11 z10 => (if v11 = 0 then okZ 0 (some (0, z10))
 else okZ 1 (some (1, z10))))))
 else (if x1 = 3 then rdF z ((r0 + 4000) + 8) fun v12 => nzI ((2 * v12) + 2) (nzI ((2 * v12) + 2) (cs1 (ce_X6_twoCome vl K r0 (((x2 : Int32) >>> ((2 : Int32) &&& 31)) / ((2 * v12) + 2)) (((x2 : Int32) >>> ((2 : Int32) &&& 31)) - ((x2 : Int32) >>> ((2 : Int32) &&& 31)) / ((2 * v12) + 2) * ((2 * v12) + 2)) (x2 &&& 3) z) fun v14 z13 => okZ v14 (some (v14, z13))))
 else none)))))
def ce_X6_make (vl : Nat → Nat) (K : Nat) (r0 : Nat) (x1 : Int32) (x2 : Int32) (z : ow_MS) : Option (Int32 × ow_MS) := cm_X6_make_0 vl K x1 x2 r0 z
abbrev wc_X6_make : List Cond := .code yX6_make cX6_make 4 (some .boolean) :: wC
theorem cdd_X6_make : yX6_make.cls = RX6 ∧ yX6_make.cls ≠ "java/lang/invoke/MethodHandle" ∧ yX6_make.cls ≠ "java/lang/invoke/VarHandle" ∧ (parseMethodDescriptor yX6_make.desc).map (fun d => d.parameters.length) = some 2 := by decide +kernel
set_option maxHeartbeats 4000000 in
set_option maxRecDepth 100000 in
theorem kc_X6_make (l : Launch) (D : va_G) (q : Nat → ClassId) (vl u : Nat → Nat) (hU0 : tw_inj (cX vl) u) (K : Nat) (r0 : Nat) (x1 : Int32) (x2 : Int32) (hr0 : cw_X6 r0) (z z1 : ow_MS) (r : Int32) (hq : ce_X6_make vl K r0 x1 x2 z = some (r, z1)) : Met l yX6_make wc_X6_make ({ frames := 5, cells := 0, slots := 0, locals := 121 } : Room) (va_Pc [.ref (u r0), .int x1, .int x2] (cw_pre D q vl u z)) (va_Qi (fun x (_ : Unit) => x = r) (fun _ t => va_P D vwCl (uw (cX vl) q u z1) t.heap) (tw_A (cX vl) u)) 0 0 (tw_A (cX vl) u) := by
  refine Met.ofW (cc := cX6_make) (maxL := 4) (ret := (some .boolean)) (by decide) rfl ?_
  intro p e s m args below meth c s₁ B hml hv
  obtain ⟨rfl, hP, hK⟩ := hv
  have hx := B.exec
  have hb := B.bytes
  have hr := B.returns
  have hts := atoms_spec (ws := wc_X6_make) B.pre
  have hT : ∀ w ∈ wC, w.before ([.ref (u r0), .int x1, .int x2] : List Value).toArray s = true := fun w h => hts w (List.mem_cons_of_mem _ h)
  have hown : s.vm.findClass RX6 = some m.cls := findClass_of_methodNamed B.named
  have hlocks := B.notSynchronized
  have hU : uw_inj (cX vl) u (tw_A (cX vl) u) := ⟨hU0, fun h hh => ⟨h, hh, rfl⟩⟩
  have hM : uw_M D vwCl (cX vl) q (tw_A (cX vl) u) s.heap u z s.heap [] := ⟨hP, va_S.rf⟩
  have hl := lv_entry ([.ref (u r0), .int x1, .int x2]) (n := 4) (Nat.le_of_ble_eq_true rfl)
  rw [lg_entry_eq]
  generalize (lg_sl ([.ref (u r0), .int x1, .int x2]) ++ List.replicate (4 - (lg_sl ([.ref (u r0), .int x1, .int x2])).length) Slot.unset).toArray = ls at hl ⊢
  have hl : lv_has ls 4 [(0, .ref (u r0)), (1, .int x1), (2, .int x2)] := hl
  refine ow_named (fun QQ hQQ => ?_)
  generalize ([.ref (u r0), .int x1, .int x2] : List Value).toArray = args at hts hT hQQ ⊢
  have hq : cm_X6_make_0 vl K x1 x2 r0 z = some (r, z1) := hq
  unfold cm_X6_make_0 at hq
  suffices key : ∀ (H : Heap) (locs : List Loc), uw_M D vwCl (cX vl) q (tw_A (cX vl) u) s.heap u z H locs → W p l e ({ frames := 5, cells := 0, slots := 0, locals := 121 } : Room) s m args below meth c H locs 0 0 QQ (F0 m 0 ls []) from key s.heap [] hM
  intro H locs hM
  refine lv_iload_n hx hb dcX6_make_0 rfl (lv_at hl 1 rfl) ?_
  by_cases hc : x1.toInt < 0 ∨ 3 < x1.toInt
  · have hq := tw_it hq hc
    refine lv_tableOut (tgt := 120) hx hb dcX6_make_1 hc (by decide) ?_
    refine lv_aload_n hx hb dcX6_make_120 rfl (lv_at hl 0 rfl) ?_
    refine lv_iload_n hx hb dcX6_make_121 rfl (lv_at hl 2 rfl) ?_
    obtain ⟨v2, z1, hcq, hq⟩ := tw_cl1 hq
    refine uw_cali hU hM (va_runV (As := [.int x2]) (rest := []) ⟨hx, hb, hml, hown, hts⟩ (kc_X6_threePass l D q vl u hU.1 K r0 x2 hr0 z z1 v2 hcq) (cwV 1 hts (tw_gV wC_good xq_531 xq_532 xq_533 xq_146 xq_534) rfl rfl rfl cdd_X6_threePass ⟨(Nat.le_of_ble_eq_true rfl), (Nat.le_of_ble_eq_true rfl)⟩) (cw_preV hK hM (co_X6 hr0) rfl) rfl rfl hl.1 rfl (lv_room (Nat.le_of_ble_eq_true rfl)) dcX6_make_122 ⟨(Nat.le_of_ble_eq_true rfl), (Nat.le_of_ble_eq_true rfl)⟩) (fun H locs hM => ?_)
    obtain ⟨hz, hq⟩ := tw_gZ hq
    exact cw_zret hx hb hr hlocks hM hz hq hQQ dcX6_make_125
  · have hq := tw_if hq hc
    by_cases hc : x1 = 0
    · have hq := tw_it hq hc
      refine ow_topi (y := 0) hc ?_
      refine lv_tableIn (x := 0) (tgt := 32) hx hb dcX6_make_1 (by decide) (by decide) rfl (by decide) ?_
      refine lv_aload_n hx hb dcX6_make_32 rfl (lv_at hl 0 rfl) ?_
      refine lv_iload_n hx hb dcX6_make_33 rfl (lv_at hl 2 rfl) ?_
      obtain ⟨v4, z3, hcq, hq⟩ := tw_cl1 hq
      refine uw_cali hU hM (va_runV (As := [.int x2]) (rest := []) ⟨hx, hb, hml, hown, hts⟩ (kc_X6_oneGoes l D q vl u hU.1 K r0 x2 hr0 z z3 v4 hcq) (cwV 1 hts (tw_gV wC_good xq_488 xq_489 xq_490 xq_146 xq_491) rfl rfl rfl cdd_X6_oneGoes ⟨(Nat.le_of_ble_eq_true rfl), (Nat.le_of_ble_eq_true rfl)⟩) (cw_preV hK hM (co_X6 hr0) rfl) rfl rfl hl.1 rfl (lv_room (Nat.le_of_ble_eq_true rfl)) dcX6_make_34 ⟨(Nat.le_of_ble_eq_true rfl), (Nat.le_of_ble_eq_true rfl)⟩) (fun H locs hM => ?_)
      obtain ⟨hz, hq⟩ := tw_gZ hq
      exact cw_zret hx hb hr hlocks hM hz hq hQQ dcX6_make_37
    · have hq := tw_if hq hc
      by_cases hc : x1 = 1
      · have hq := tw_it hq hc
        refine ow_topi (y := 1) hc ?_
        refine lv_tableIn (x := 1) (tgt := 38) hx hb dcX6_make_1 (by decide) (by decide) rfl (by decide) ?_
        refine lv_aload_n hx hb dcX6_make_38 rfl (lv_at hl 0 rfl) ?_
        refine lv_iload_n hx hb dcX6_make_39 rfl (lv_at hl 2 rfl) ?_
        refine lv_iconst (v := 2) hx hb dcX6_make_40 (by decide) ?_
        refine lv_ishr hx hb dcX6_make_41 ?_
        refine lv_iload_n hx hb dcX6_make_42 rfl (lv_at hl 2 rfl) ?_
        refine lv_iconst (v := 3) hx hb dcX6_make_43 (by decide) ?_
        refine lv_iand hx hb dcX6_make_44 ?_
        obtain ⟨v6, z5, hcq, hq⟩ := tw_cl1 hq
        refine uw_cali hU hM (va_runV (As := [.int ((x2 : Int32) >>> ((2 : Int32) &&& 31)), .int (x2 &&& 3)]) (rest := []) ⟨hx, hb, hml, hown, hts⟩ (kc_X6_oneComes l D q vl u hU.1 K r0 ((x2 : Int32) >>> ((2 : Int32) &&& 31)) (x2 &&& 3) hr0 z z5 v6 hcq) (cwV 2 hts (tw_gV wC_good xq_495 xq_496 xq_497 xq_146 xq_498) rfl rfl rfl cdd_X6_oneComes ⟨(Nat.le_of_ble_eq_true rfl), (Nat.le_of_ble_eq_true rfl)⟩) (cw_preV hK hM (co_X6 hr0) rfl) rfl rfl hl.1 rfl (lv_room (Nat.le_of_ble_eq_true rfl)) dcX6_make_45 ⟨(Nat.le_of_ble_eq_true rfl), (Nat.le_of_ble_eq_true rfl)⟩) (fun H locs hM => ?_)
        obtain ⟨hz, hq⟩ := tw_gZ hq
        exact cw_zret hx hb hr hlocks hM hz hq hQQ dcX6_make_48
      · have hq := tw_if hq hc
        by_cases hc : x1 = 2
        · have hq := tw_it hq hc
          refine ow_topi (y := 2) hc ?_
          refine lv_tableIn (x := 2) (tgt := 49) hx hb dcX6_make_1 (by decide) (by decide) rfl (by decide) ?_
          refine lv_aload_n hx hb dcX6_make_49 rfl (lv_at hl 0 rfl) ?_
          refine vgX6_29 hx hb hT hown hK hM hr0 dcX6_make_50 ?_
          refine vgX6_81 hx hb hT hown hK hM (cs_X6_3 hr0) hq dcX6_make_53 (fun v7 hq => ?_)
          refine lv_if_le (tgt := 88) hx hb dcX6_make_56 (by decide) (fun hc => ?_) (fun hc => ?_)
          · have hq := tw_it hq hc
            refine lv_iconst (v := 0) hx hb dcX6_make_88 (by decide) ?_
            obtain ⟨hz, hq⟩ := tw_gZ hq
            exact cw_zret hx hb hr hlocks hM hz hq hQQ dcX6_make_89
          · have hq := tw_if hq hc
            refine lv_aload_n hx hb dcX6_make_59 rfl (lv_at hl 0 rfl) ?_
            refine lv_iload_n hx hb dcX6_make_60 rfl (lv_at hl 2 rfl) ?_
            refine lv_aload_n hx hb dcX6_make_61 rfl (lv_at hl 0 rfl) ?_
            refine vgX6_29 hx hb hT hown hK hM hr0 dcX6_make_62 ?_
            refine vgX6_81 hx hb hT hown hK hM (cs_X6_3 hr0) hq dcX6_make_65 (fun v8 hq => ?_)
            obtain ⟨hz, hq⟩ := tw_nzI hq
            refine lv_idiv hx hb dcX6_make_68 hz ?_
            refine lv_iload_n hx hb dcX6_make_69 rfl (lv_at hl 2 rfl) ?_
            refine lv_aload_n hx hb dcX6_make_70 rfl (lv_at hl 0 rfl) ?_
            refine vgX6_29 hx hb hT hown hK hM hr0 dcX6_make_71 ?_
            refine vgX6_81 hx hb hT hown hK hM (cs_X6_3 hr0) hq dcX6_make_74 (fun v9 hq => ?_)
            obtain ⟨hz, hq⟩ := tw_nzI hq
            refine lv_irem hx hb dcX6_make_77 hz ?_
            obtain ⟨v11, z10, hcq, hq⟩ := tw_cl1 hq
            refine uw_cali hU hM (va_runV (As := [.int (x2 / v8), .int (x2 - x2 / v9 * v9)]) (rest := []) ⟨hx, hb, hml, hown, hts⟩ (kc_X6_twoGo l D q vl u hU.1 K r0 (x2 / v8) (x2 - x2 / v9 * v9) hr0 z z10 v11 hcq) (cwV 2 hts (tw_gV wC_good xq_512 xq_513 xq_514 xq_146 xq_515) rfl rfl rfl cdd_X6_twoGo ⟨(Nat.le_of_ble_eq_true rfl), (Nat.le_of_ble_eq_true rfl)⟩) (cw_preV hK hM (co_X6 hr0) rfl) rfl rfl hl.1 rfl (lv_room (Nat.le_of_ble_eq_true rfl)) dcX6_make_78 ⟨(Nat.le_of_ble_eq_true rfl), (Nat.le_of_ble_eq_true rfl)⟩) (fun H locs hM => ?_)
            refine lv_if_eq (tgt := 88) hx hb dcX6_make_81 (by decide) (fun hc => ?_) (fun hc => ?_)
            · have hq := tw_it hq hc
              refine lv_iconst (v := 0) hx hb dcX6_make_88 (by decide) ?_
              obtain ⟨hz, hq⟩ := tw_gZ hq
              exact cw_zret hx hb hr hlocks hM hz hq hQQ dcX6_make_89
            · have hq := tw_if hq hc
              refine lv_iconst (v := 1) hx hb dcX6_make_84 (by decide) ?_
              refine lv_goto (tgt := 89) hx hb dcX6_make_85 (by decide) ?_
              obtain ⟨hz, hq⟩ := tw_gZ hq
              exact cw_zret hx hb hr hlocks hM hz hq hQQ dcX6_make_89
        · have hq := tw_if hq hc
          by_cases hc : x1 = 3
          · have hq := tw_it hq hc
            refine ow_topi (y := 3) hc ?_
            refine lv_tableIn (x := 3) (tgt := 90) hx hb dcX6_make_1 (by decide) (by decide) rfl (by decide) ?_
            refine lv_iconst (v := 2) hx hb dcX6_make_90 (by decide) ?_
            refine lv_aload_n hx hb dcX6_make_91 rfl (lv_at hl 0 rfl) ?_
            refine vgX6_29 hx hb hT hown hK hM hr0 dcX6_make_92 ?_
            refine vgX6_81 hx hb hT hown hK hM (cs_X6_3 hr0) hq dcX6_make_95 (fun v12 hq => ?_)
            refine lv_imul hx hb dcX6_make_98 ?_
            refine lv_iconst (v := 2) hx hb dcX6_make_99 (by decide) ?_
            refine lv_iadd hx hb dcX6_make_100 ?_
            refine lv_istore_n (lv' := [(3, .int ((2 * v12) + 2)), (0, .ref (u r0)), (1, .int x1), (2, .int x2)]) hx hb dcX6_make_101 rfl hl (by decide) rfl (fun ls hl => ?_)
            refine lv_aload_n hx hb dcX6_make_102 rfl (lv_at hl 1 rfl) ?_
            refine lv_iload_n hx hb dcX6_make_103 rfl (lv_at hl 3 rfl) ?_
            refine lv_iconst (v := 2) hx hb dcX6_make_104 (by decide) ?_
            refine lv_ishr hx hb dcX6_make_105 ?_
            refine lv_iload_n hx hb dcX6_make_106 rfl (lv_at hl 0 rfl) ?_
            obtain ⟨hz, hq⟩ := tw_nzI hq
            refine lv_idiv hx hb dcX6_make_107 hz ?_
            refine lv_iload_n hx hb dcX6_make_108 rfl (lv_at hl 3 rfl) ?_
            refine lv_iconst (v := 2) hx hb dcX6_make_109 (by decide) ?_
            refine lv_ishr hx hb dcX6_make_110 ?_
            refine lv_iload_n hx hb dcX6_make_111 rfl (lv_at hl 0 rfl) ?_
            obtain ⟨hz, hq⟩ := tw_nzI hq
            refine lv_irem hx hb dcX6_make_112 hz ?_
            refine lv_iload_n hx hb dcX6_make_113 rfl (lv_at hl 3 rfl) ?_
            refine lv_iconst (v := 3) hx hb dcX6_make_114 (by decide) ?_
            refine lv_iand hx hb dcX6_make_115 ?_
            obtain ⟨v14, z13, hcq, hq⟩ := tw_cl1 hq
            refine uw_cali hU hM (va_runV (As := [.int (((x2 : Int32) >>> ((2 : Int32) &&& 31)) / ((2 * v12) + 2)), .int (((x2 : Int32) >>> ((2 : Int32) &&& 31)) - ((x2 : Int32) >>> ((2 : Int32) &&& 31)) / ((2 * v12) + 2) * ((2 * v12) + 2)), .int (x2 &&& 3)]) (rest := []) ⟨hx, hb, hml, hown, hts⟩ (kc_X6_twoCome l D q vl u hU.1 K r0 (((x2 : Int32) >>> ((2 : Int32) &&& 31)) / ((2 * v12) + 2)) (((x2 : Int32) >>> ((2 : Int32) &&& 31)) - ((x2 : Int32) >>> ((2 : Int32) &&& 31)) / ((2 * v12) + 2) * ((2 * v12) + 2)) (x2 &&& 3) hr0 z z13 v14 hcq) (cwV 3 hts (tw_gV wC_good xq_517 xq_518 xq_519 xq_146 xq_520) rfl rfl rfl cdd_X6_twoCome ⟨(Nat.le_of_ble_eq_true rfl), (Nat.le_of_ble_eq_true rfl)⟩) (cw_preV hK hM (co_X6 hr0) rfl) rfl rfl hl.1 rfl (lv_room (Nat.le_of_ble_eq_true rfl)) dcX6_make_116 ⟨(Nat.le_of_ble_eq_true rfl), (Nat.le_of_ble_eq_true rfl)⟩) (fun H locs hM => ?_)
            obtain ⟨hz, hq⟩ := tw_gZ hq
            exact cw_zret hx hb hr hlocks hM hz hq hQQ dcX6_make_119
          · have hq := tw_if hq hc
            cases hq
theorem dcX7_load_0 : decode cX7_load 0 = .ok (.aload_n 0, 1) := dw_at cX7_load_k0 (p := 0) rfl (by decide +kernel)
theorem dcX7_load_1 : decode cX7_load 1 = .ok (.aload_n 1, 1) := dw_at cX7_load_k0 (p := 1) rfl (by decide +kernel)
theorem dcX7_load_2 : decode cX7_load 2 = .ok (.getfield 33, 3) := dw_at cX7_load_k0 (p := 2) rfl (by decide +kernel)
theorem dcX7_load_5 : decode cX7_load 5 = .ok (.iload_n 2, 1) := dw_at cX7_load_k0 (p := 5) rfl (by decide +kernel)
theorem dcX7_load_6 : decode cX7_load 6 = .ok (.baload, 1) := dw_at cX7_load_k0 (p := 6) rfl (by decide +kernel)
theorem dcX7_load_7 : decode cX7_load 7 = .ok (.putfield 39, 3) := dw_at cX7_load_k0 (p := 7) rfl (by decide +kernel)
theorem dcX7_load_10 : decode cX7_load 10 = .ok (.aload_n 0, 1) := dw_at cX7_load_k0 (p := 10) rfl (by decide +kernel)
theorem dcX7_load_11 : decode cX7_load 11 = .ok (.iconst 0, 1) := dw_at cX7_load_k0 (p := 11) rfl (by decide +kernel)
theorem dcX7_load_12 : decode cX7_load 12 = .ok (.putfield 42, 3) := dw_at cX7_load_k0 (p := 12) rfl (by decide +kernel)
theorem dcX7_load_15 : decode cX7_load 15 = .ok (.aload_n 0, 1) := dw_at cX7_load_k0 (p := 15) rfl (by decide +kernel)
theorem dcX7_load_16 : decode cX7_load 16 = .ok (.iconst 0, 1) := dw_at cX7_load_k0 (p := 16) rfl (by decide +kernel)
theorem dcX7_load_17 : decode cX7_load 17 = .ok (.putfield 45, 3) := dw_at cX7_load_k0 (p := 17) rfl (by decide +kernel)
theorem dcX7_load_20 : decode cX7_load 20 = .ok (.iload_n 2, 1) := dw_at cX7_load_k0 (p := 20) rfl (by decide +kernel)
theorem dcX7_load_21 : decode cX7_load 21 = .ok (.bipush 30, 2) := dw_at cX7_load_k0 (p := 21) rfl (by decide +kernel)
theorem dcX7_load_23 : decode cX7_load 23 = .ok (.imul, 1) := dw_at cX7_load_k0 (p := 23) rfl (by decide +kernel)
theorem dcX7_load_24 : decode cX7_load 24 = .ok (.istore_n 3, 1) := dw_at cX7_load_k1 (p := 0) rfl (by decide +kernel)
theorem dcX7_load_25 : decode cX7_load 25 = .ok (.iconst 0, 1) := dw_at cX7_load_k1 (p := 1) rfl (by decide +kernel)
theorem dcX7_load_26 : decode cX7_load 26 = .ok (.istore 4, 2) := dw_at cX7_load_k1 (p := 2) rfl (by decide +kernel)
theorem dcX7_load_28 : decode cX7_load 28 = .ok (.iconst 0, 1) := dw_at cX7_load_k1 (p := 4) rfl (by decide +kernel)
theorem dcX7_load_29 : decode cX7_load 29 = .ok (.istore 5, 2) := dw_at cX7_load_k1 (p := 5) rfl (by decide +kernel)
theorem dcX7_load_31 : decode cX7_load 31 = .ok (.iconst 0, 1) := dw_at cX7_load_k1 (p := 7) rfl (by decide +kernel)
theorem dcX7_load_32 : decode cX7_load 32 = .ok (.istore 6, 2) := dw_at cX7_load_k1 (p := 8) rfl (by decide +kernel)
theorem dcX7_load_34 : decode cX7_load 34 = .ok (.iconst 0, 1) := dw_at cX7_load_k1 (p := 10) rfl (by decide +kernel)
theorem dcX7_load_35 : decode cX7_load 35 = .ok (.istore 7, 2) := dw_at cX7_load_k1 (p := 11) rfl (by decide +kernel)
theorem dcX7_load_37 : decode cX7_load 37 = .ok (.iconst (-1), 1) := dw_at cX7_load_k1 (p := 13) rfl (by decide +kernel)
theorem dcX7_load_38 : decode cX7_load 38 = .ok (.istore 8, 2) := dw_at cX7_load_k1 (p := 14) rfl (by decide +kernel)
theorem dcX7_load_40 : decode cX7_load 40 = .ok (.iconst (-1), 1) := dw_at cX7_load_k1 (p := 16) rfl (by decide +kernel)
theorem dcX7_load_41 : decode cX7_load 41 = .ok (.istore 9, 2) := dw_at cX7_load_k1 (p := 17) rfl (by decide +kernel)
theorem dcX7_load_43 : decode cX7_load 43 = .ok (.iconst 0, 1) := dw_at cX7_load_k1 (p := 19) rfl (by decide +kernel)
theorem dcX7_load_44 : decode cX7_load 44 = .ok (.istore 10, 2) := dw_at cX7_load_k1 (p := 20) rfl (by decide +kernel)
theorem dcX7_load_46 : decode cX7_load 46 = .ok (.iload 10, 2) := dw_at cX7_load_k1 (p := 22) rfl (by decide +kernel)
theorem dcX7_load_48 : decode cX7_load 48 = .ok (.aload_n 1, 1) := dw_at cX7_load_k2 (p := 0) rfl (by decide +kernel)
theorem dcX7_load_49 : decode cX7_load 49 = .ok (.getfield 48, 3) := dw_at cX7_load_k2 (p := 1) rfl (by decide +kernel)
theorem dcX7_load_52 : decode cX7_load 52 = .ok (.iload_n 2, 1) := dw_at cX7_load_k2 (p := 4) rfl (by decide +kernel)
theorem dcX7_load_53 : decode cX7_load 53 = .ok (.baload, 1) := dw_at cX7_load_k2 (p := 5) rfl (by decide +kernel)
theorem dcX7_load_54 : decode cX7_load 54 = .ok (.if_icmp .ge 195, 3) := dw_at cX7_load_k2 (p := 6) rfl (by decide +kernel)
theorem dcX7_load_57 : decode cX7_load 57 = .ok (.aload_n 1, 1) := dw_at cX7_load_k2 (p := 9) rfl (by decide +kernel)
theorem dcX7_load_58 : decode cX7_load 58 = .ok (.getfield 51, 3) := dw_at cX7_load_k2 (p := 10) rfl (by decide +kernel)
theorem dcX7_load_61 : decode cX7_load 61 = .ok (.iload_n 3, 1) := dw_at cX7_load_k2 (p := 13) rfl (by decide +kernel)
theorem dcX7_load_62 : decode cX7_load 62 = .ok (.iload 10, 2) := dw_at cX7_load_k2 (p := 14) rfl (by decide +kernel)
theorem dcX7_load_64 : decode cX7_load 64 = .ok (.iadd, 1) := dw_at cX7_load_k2 (p := 16) rfl (by decide +kernel)
theorem dcX7_load_65 : decode cX7_load 65 = .ok (.baload, 1) := dw_at cX7_load_k2 (p := 17) rfl (by decide +kernel)
theorem dcX7_load_66 : decode cX7_load 66 = .ok (.istore 11, 2) := dw_at cX7_load_k2 (p := 18) rfl (by decide +kernel)
theorem dcX7_load_68 : decode cX7_load 68 = .ok (.iload 11, 2) := dw_at cX7_load_k2 (p := 20) rfl (by decide +kernel)
theorem dcX7_load_70 : decode cX7_load 70 = .ok (.ifCond .ne 60, 3) := dw_at cX7_load_k2 (p := 22) rfl (by decide +kernel)
theorem dcX7_load_73 : decode cX7_load 73 = .ok (.iload 8, 2) := dw_at cX7_load_k3 (p := 0) rfl (by decide +kernel)
theorem dcX7_load_75 : decode cX7_load 75 = .ok (.iconst (-1), 1) := dw_at cX7_load_k3 (p := 2) rfl (by decide +kernel)
theorem dcX7_load_76 : decode cX7_load 76 = .ok (.if_icmp .ne 16, 3) := dw_at cX7_load_k3 (p := 3) rfl (by decide +kernel)
theorem dcX7_load_79 : decode cX7_load 79 = .ok (.aload_n 0, 1) := dw_at cX7_load_k3 (p := 6) rfl (by decide +kernel)
theorem dcX7_load_80 : decode cX7_load 80 = .ok (.dup, 1) := dw_at cX7_load_k3 (p := 7) rfl (by decide +kernel)
theorem dcX7_load_81 : decode cX7_load 81 = .ok (.getfield 42, 3) := dw_at cX7_load_k3 (p := 8) rfl (by decide +kernel)
theorem dcX7_load_84 : decode cX7_load 84 = .ok (.iconst 1, 1) := dw_at cX7_load_k3 (p := 11) rfl (by decide +kernel)
theorem dcX7_load_85 : decode cX7_load 85 = .ok (.iadd, 1) := dw_at cX7_load_k3 (p := 12) rfl (by decide +kernel)
theorem dcX7_load_86 : decode cX7_load 86 = .ok (.putfield 42, 3) := dw_at cX7_load_k3 (p := 13) rfl (by decide +kernel)
theorem dcX7_load_89 : decode cX7_load 89 = .ok (.goto 11, 3) := dw_at cX7_load_k3 (p := 16) rfl (by decide +kernel)
theorem dcX7_load_92 : decode cX7_load 92 = .ok (.aload_n 0, 1) := dw_at cX7_load_k3 (p := 19) rfl (by decide +kernel)
theorem dcX7_load_93 : decode cX7_load 93 = .ok (.iload 9, 2) := dw_at cX7_load_k3 (p := 20) rfl (by decide +kernel)
theorem dcX7_load_95 : decode cX7_load 95 = .ok (.iload 8, 2) := dw_at cX7_load_k3 (p := 22) rfl (by decide +kernel)
theorem dcX7_load_97 : decode cX7_load 97 = .ok (.invokevirtual 54, 3) := dw_at cX7_load_k4 (p := 0) rfl (by decide +kernel)
theorem dcX7_load_100 : decode cX7_load 100 = .ok (.aload_n 0, 1) := dw_at cX7_load_k4 (p := 3) rfl (by decide +kernel)
theorem dcX7_load_101 : decode cX7_load 101 = .ok (.dup, 1) := dw_at cX7_load_k4 (p := 4) rfl (by decide +kernel)
theorem dcX7_load_102 : decode cX7_load 102 = .ok (.getfield 45, 3) := dw_at cX7_load_k4 (p := 5) rfl (by decide +kernel)
theorem dcX7_load_105 : decode cX7_load 105 = .ok (.iconst 1, 1) := dw_at cX7_load_k4 (p := 8) rfl (by decide +kernel)
theorem dcX7_load_106 : decode cX7_load 106 = .ok (.iadd, 1) := dw_at cX7_load_k4 (p := 9) rfl (by decide +kernel)
theorem dcX7_load_107 : decode cX7_load 107 = .ok (.putfield 45, 3) := dw_at cX7_load_k4 (p := 10) rfl (by decide +kernel)
theorem dcX7_load_110 : decode cX7_load 110 = .ok (.iconst (-1), 1) := dw_at cX7_load_k4 (p := 13) rfl (by decide +kernel)
theorem dcX7_load_111 : decode cX7_load 111 = .ok (.istore 8, 2) := dw_at cX7_load_k4 (p := 14) rfl (by decide +kernel)
theorem dcX7_load_113 : decode cX7_load 113 = .ok (.iload 6, 2) := dw_at cX7_load_k4 (p := 16) rfl (by decide +kernel)
theorem dcX7_load_115 : decode cX7_load 115 = .ok (.ifCond .ne 8, 3) := dw_at cX7_load_k4 (p := 18) rfl (by decide +kernel)
theorem dcX7_load_118 : decode cX7_load 118 = .ok (.iload 5, 2) := dw_at cX7_load_k4 (p := 21) rfl (by decide +kernel)
theorem dcX7_load_120 : decode cX7_load 120 = .ok (.goto 5, 3) := dw_at cX7_load_k4 (p := 23) rfl (by decide +kernel)
theorem dcX7_load_123 : decode cX7_load 123 = .ok (.iload 4, 2) := dw_at cX7_load_k5 (p := 0) rfl (by decide +kernel)
theorem dcX7_load_125 : decode cX7_load 125 = .ok (.istore 4, 2) := dw_at cX7_load_k5 (p := 2) rfl (by decide +kernel)
theorem dcX7_load_127 : decode cX7_load 127 = .ok (.goto 116, 3) := dw_at cX7_load_k5 (p := 4) rfl (by decide +kernel)
theorem dcX7_load_130 : decode cX7_load 130 = .ok (.iload 4, 2) := dw_at cX7_load_k5 (p := 7) rfl (by decide +kernel)
theorem dcX7_load_132 : decode cX7_load 132 = .ok (.iload 11, 2) := dw_at cX7_load_k5 (p := 9) rfl (by decide +kernel)
theorem dcX7_load_134 : decode cX7_load 134 = .ok (.iconst 2, 1) := dw_at cX7_load_k5 (p := 11) rfl (by decide +kernel)
theorem dcX7_load_135 : decode cX7_load 135 = .ok (.ishr, 1) := dw_at cX7_load_k5 (p := 12) rfl (by decide +kernel)
theorem dcX7_load_136 : decode cX7_load 136 = .ok (.iadd, 1) := dw_at cX7_load_k5 (p := 13) rfl (by decide +kernel)
theorem dcX7_load_137 : decode cX7_load 137 = .ok (.iconst 1, 1) := dw_at cX7_load_k5 (p := 14) rfl (by decide +kernel)
theorem dcX7_load_138 : decode cX7_load 138 = .ok (.isub, 1) := dw_at cX7_load_k5 (p := 15) rfl (by decide +kernel)
theorem dcX7_load_139 : decode cX7_load 139 = .ok (.istore 12, 2) := dw_at cX7_load_k5 (p := 16) rfl (by decide +kernel)
theorem dcX7_load_141 : decode cX7_load 141 = .ok (.iload 12, 2) := dw_at cX7_load_k5 (p := 18) rfl (by decide +kernel)
theorem dcX7_load_143 : decode cX7_load 143 = .ok (.iload 5, 2) := dw_at cX7_load_k5 (p := 20) rfl (by decide +kernel)
theorem dcX7_load_145 : decode cX7_load 145 = .ok (.if_icmp .lt 34, 3) := dw_at cX7_load_k5 (p := 22) rfl (by decide +kernel)
theorem dcX7_load_148 : decode cX7_load 148 = .ok (.iload 12, 2) := dw_at cX7_load_k6 (p := 0) rfl (by decide +kernel)
theorem dcX7_load_150 : decode cX7_load 150 = .ok (.iconst 1, 1) := dw_at cX7_load_k6 (p := 2) rfl (by decide +kernel)
theorem dcX7_load_151 : decode cX7_load 151 = .ok (.iadd, 1) := dw_at cX7_load_k6 (p := 3) rfl (by decide +kernel)
theorem dcX7_load_152 : decode cX7_load 152 = .ok (.istore 5, 2) := dw_at cX7_load_k6 (p := 4) rfl (by decide +kernel)
theorem dcX7_load_154 : decode cX7_load 154 = .ok (.iinc 6 1, 3) := dw_at cX7_load_k6 (p := 6) rfl (by decide +kernel)
theorem dcX7_load_157 : decode cX7_load 157 = .ok (.aload_n 0, 1) := dw_at cX7_load_k6 (p := 9) rfl (by decide +kernel)
theorem dcX7_load_158 : decode cX7_load 158 = .ok (.getfield 18, 3) := dw_at cX7_load_k6 (p := 10) rfl (by decide +kernel)
theorem dcX7_load_161 : decode cX7_load 161 = .ok (.iload 12, 2) := dw_at cX7_load_k6 (p := 13) rfl (by decide +kernel)
theorem dcX7_load_163 : decode cX7_load 163 = .ok (.iload 11, 2) := dw_at cX7_load_k6 (p := 15) rfl (by decide +kernel)
theorem dcX7_load_165 : decode cX7_load 165 = .ok (.iconst 1, 1) := dw_at cX7_load_k6 (p := 17) rfl (by decide +kernel)
theorem dcX7_load_166 : decode cX7_load 166 = .ok (.iand, 1) := dw_at cX7_load_k6 (p := 18) rfl (by decide +kernel)
theorem dcX7_load_167 : decode cX7_load 167 = .ok (.ifCond .ne 7, 3) := dw_at cX7_load_k6 (p := 19) rfl (by decide +kernel)
theorem dcX7_load_170 : decode cX7_load 170 = .ok (.iconst 1, 1) := dw_at cX7_load_k6 (p := 22) rfl (by decide +kernel)
theorem dcX7_load_171 : decode cX7_load 171 = .ok (.goto 4, 3) := dw_at cX7_load_k6 (p := 23) rfl (by decide +kernel)
theorem dcX7_load_174 : decode cX7_load 174 = .ok (.iconst (-1), 1) := dw_at cX7_load_k7 (p := 0) rfl (by decide +kernel)
theorem dcX7_load_175 : decode cX7_load 175 = .ok (.iastore, 1) := dw_at cX7_load_k7 (p := 1) rfl (by decide +kernel)
theorem dcX7_load_176 : decode cX7_load 176 = .ok (.goto 6, 3) := dw_at cX7_load_k7 (p := 2) rfl (by decide +kernel)
theorem dcX7_load_179 : decode cX7_load 179 = .ok (.iinc 6 (-1), 3) := dw_at cX7_load_k7 (p := 5) rfl (by decide +kernel)
theorem dcX7_load_182 : decode cX7_load 182 = .ok (.iconst 2, 1) := dw_at cX7_load_k7 (p := 8) rfl (by decide +kernel)
theorem dcX7_load_183 : decode cX7_load 183 = .ok (.iload 12, 2) := dw_at cX7_load_k7 (p := 9) rfl (by decide +kernel)
theorem dcX7_load_185 : decode cX7_load 185 = .ok (.imul, 1) := dw_at cX7_load_k7 (p := 11) rfl (by decide +kernel)
theorem dcX7_load_186 : decode cX7_load 186 = .ok (.iload 11, 2) := dw_at cX7_load_k7 (p := 12) rfl (by decide +kernel)
theorem dcX7_load_188 : decode cX7_load 188 = .ok (.iconst 1, 1) := dw_at cX7_load_k7 (p := 14) rfl (by decide +kernel)
theorem dcX7_load_189 : decode cX7_load 189 = .ok (.ishr, 1) := dw_at cX7_load_k7 (p := 15) rfl (by decide +kernel)
theorem dcX7_load_190 : decode cX7_load 190 = .ok (.iconst 1, 1) := dw_at cX7_load_k7 (p := 16) rfl (by decide +kernel)
theorem dcX7_load_191 : decode cX7_load 191 = .ok (.iand, 1) := dw_at cX7_load_k7 (p := 17) rfl (by decide +kernel)
theorem dcX7_load_192 : decode cX7_load 192 = .ok (.iadd, 1) := dw_at cX7_load_k7 (p := 18) rfl (by decide +kernel)
theorem dcX7_load_193 : decode cX7_load 193 = .ok (.istore 13, 2) := dw_at cX7_load_k7 (p := 19) rfl (by decide +kernel)
theorem dcX7_load_195 : decode cX7_load 195 = .ok (.aload_n 0, 1) := dw_at cX7_load_k7 (p := 21) rfl (by decide +kernel)
theorem dcX7_load_196 : decode cX7_load 196 = .ok (.getfield 21, 3) := dw_at cX7_load_k7 (p := 22) rfl (by decide +kernel)
theorem dcX7_load_199 : decode cX7_load 199 = .ok (.iload 7, 2) := dw_at cX7_load_k8 (p := 0) rfl (by decide +kernel)
theorem dcX7_load_201 : decode cX7_load 201 = .ok (.iload 13, 2) := dw_at cX7_load_k8 (p := 2) rfl (by decide +kernel)
theorem dcX7_load_203 : decode cX7_load 203 = .ok (.iastore, 1) := dw_at cX7_load_k8 (p := 4) rfl (by decide +kernel)
theorem dcX7_load_204 : decode cX7_load 204 = .ok (.iinc 7 1, 3) := dw_at cX7_load_k8 (p := 5) rfl (by decide +kernel)
theorem dcX7_load_207 : decode cX7_load 207 = .ok (.aload_n 0, 1) := dw_at cX7_load_k8 (p := 8) rfl (by decide +kernel)
theorem dcX7_load_208 : decode cX7_load 208 = .ok (.getfield 24, 3) := dw_at cX7_load_k8 (p := 9) rfl (by decide +kernel)
theorem dcX7_load_211 : decode cX7_load 211 = .ok (.iload 13, 2) := dw_at cX7_load_k8 (p := 12) rfl (by decide +kernel)
theorem dcX7_load_213 : decode cX7_load 213 = .ok (.aload_n 0, 1) := dw_at cX7_load_k8 (p := 14) rfl (by decide +kernel)
theorem dcX7_load_214 : decode cX7_load 214 = .ok (.getfield 45, 3) := dw_at cX7_load_k8 (p := 15) rfl (by decide +kernel)
theorem dcX7_load_217 : decode cX7_load 217 = .ok (.iastore, 1) := dw_at cX7_load_k8 (p := 18) rfl (by decide +kernel)
theorem dcX7_load_218 : decode cX7_load 218 = .ok (.iload 8, 2) := dw_at cX7_load_k8 (p := 19) rfl (by decide +kernel)
theorem dcX7_load_220 : decode cX7_load 220 = .ok (.iconst (-1), 1) := dw_at cX7_load_k8 (p := 21) rfl (by decide +kernel)
theorem dcX7_load_221 : decode cX7_load 221 = .ok (.if_icmp .ne 10, 3) := dw_at cX7_load_k8 (p := 22) rfl (by decide +kernel)
theorem dcX7_load_224 : decode cX7_load 224 = .ok (.iload 13, 2) := dw_at cX7_load_k9 (p := 0) rfl (by decide +kernel)
theorem dcX7_load_226 : decode cX7_load 226 = .ok (.istore 8, 2) := dw_at cX7_load_k9 (p := 2) rfl (by decide +kernel)
theorem dcX7_load_228 : decode cX7_load 228 = .ok (.goto 11, 3) := dw_at cX7_load_k9 (p := 4) rfl (by decide +kernel)
theorem dcX7_load_231 : decode cX7_load 231 = .ok (.aload_n 0, 1) := dw_at cX7_load_k9 (p := 7) rfl (by decide +kernel)
theorem dcX7_load_232 : decode cX7_load 232 = .ok (.iload 9, 2) := dw_at cX7_load_k9 (p := 8) rfl (by decide +kernel)
theorem dcX7_load_234 : decode cX7_load 234 = .ok (.iload 13, 2) := dw_at cX7_load_k9 (p := 10) rfl (by decide +kernel)
theorem dcX7_load_236 : decode cX7_load 236 = .ok (.invokevirtual 54, 3) := dw_at cX7_load_k9 (p := 12) rfl (by decide +kernel)
theorem dcX7_load_239 : decode cX7_load 239 = .ok (.iload 13, 2) := dw_at cX7_load_k9 (p := 15) rfl (by decide +kernel)
theorem dcX7_load_241 : decode cX7_load 241 = .ok (.istore 9, 2) := dw_at cX7_load_k9 (p := 17) rfl (by decide +kernel)
theorem dcX7_load_243 : decode cX7_load 243 = .ok (.iinc 10 1, 3) := dw_at cX7_load_k9 (p := 19) rfl (by decide +kernel)
theorem dcX7_load_246 : decode cX7_load 246 = .ok (.goto (-200), 3) := dw_at cX7_load_k9 (p := 22) rfl (by decide +kernel)
theorem dcX7_load_249 : decode cX7_load 249 = .ok (.return_, 1) := dw_at cX7_load_k9 (p := 25) rfl (by decide +kernel)
def cm_X7_load_0 (vl : Nat → Nat) (K : Nat) (go : Nat → Int32 → Int32 → Int32 → Int32 → Int32 → Int32 → Int32 → Int32 → Int32 → Int32 → Int32 → Int32 → Nat → Nat → Int32 → Int32 → ow_MS → Option ow_MS) (x2 : Int32) (x3 : Int32) (x4 : Int32) (x5 : Int32) (x6 : Int32) (x7 : Int32) (x8 : Int32) (x9 : Int32) (x10 : Int32) (x11 : Int32) (x12 : Int32) (x13 : Int32) (r0 : Nat) (r1 : Nat) (t0 : Int32) (t1 : Int32) (z : ow_MS) : Option ow_MS :=
 crI (cX vl) z (r1 + 3) x2 fun v1 => wrF z (r0 + 8) v1 fun z2 => wrF z2 (r0 + 9) 0 fun z3 => wrF z3 (r0 + 10) 0 fun z4 => go 1 x2 (x2 * 30) 0 0 0 0 (-1) (-1) 0 0 0 0 r0 r1 0 0 z4
def cm_X7_load_1 (vl : Nat → Nat) (K : Nat) (go : Nat → Int32 → Int32 → Int32 → Int32 → Int32 → Int32 → Int32 → Int32 → Int32 → Int32 → Int32 → Int32 → Nat → Nat → Int32 → Int32 → ow_MS → Option ow_MS) (x2 : Int32) (x3 : Int32) (x4 : Int32) (x5 : Int32) (x6 : Int32) (x7 : Int32) (x8 : Int32) (x9 : Int32) (x10 : Int32) (x11 : Int32) (x12 : Int32) (x13 : Int32) (r0 : Nat) (r1 : Nat) (t0 : Int32) (t1 : Int32) (z : ow_MS) : Option ow_MS :=
 crI (cX vl) z (r1 + 2) x2 fun v5 => (if v5 ≤ x10 then some z
 else crI (cX vl) z (r1 + 1) (x3 + x10) fun v6 => (if v6 = 0 then (if x8 = (-1) then rdF z (r0 + 9) fun v8 => wrF z (r0 + 9) (v8 + 1) fun z9 => go 2 x2 x3 x4 x5 x6 x7 x8 x9 x10 v6 0 0 r0 r1 0 0 z9
 else cs0 (ce_X7_link vl K r0 x9 x8 z) fun z7 => go 2 x2 x3 x4 x5 x6 x7 x8 x9 x10 v6 0 0 r0 r1 0 0 z7)
 else (if ((x4 + ((v6 : Int32) >>> ((2 : Int32) &&& 31))) - 1) < x5 then go 5 x2 x3 x4 x5 (x6 + (-1)) x7 x8 x9 x10 v6 ((x4 + ((v6 : Int32) >>> ((2 : Int32) &&& 31))) - 1) 0 r0 r1 0 0 z
 else (if (v6 &&& 1) = 0 then go 4 x2 x3 x4 (((x4 + ((v6 : Int32) >>> ((2 : Int32) &&& 31))) - 1) + 1) (x6 + 1) x7 x8 x9 x10 v6 ((x4 + ((v6 : Int32) >>> ((2 : Int32) &&& 31))) - 1) 0 r0 r1 1 ((x4 + ((v6 : Int32) >>> ((2 : Int32) &&& 31))) - 1) z
 else go 4 x2 x3 x4 (((x4 + ((v6 : Int32) >>> ((2 : Int32) &&& 31))) - 1) + 1) (x6 + 1) x7 x8 x9 x10 v6 ((x4 + ((v6 : Int32) >>> ((2 : Int32) &&& 31))) - 1) 0 r0 r1 (-1) ((x4 + ((v6 : Int32) >>> ((2 : Int32) &&& 31))) - 1) z))))
def cm_X7_load_2 (vl : Nat → Nat) (K : Nat) (go : Nat → Int32 → Int32 → Int32 → Int32 → Int32 → Int32 → Int32 → Int32 → Int32 → Int32 → Int32 → Int32 → Nat → Nat → Int32 → Int32 → ow_MS → Option ow_MS) (x2 : Int32) (x3 : Int32) (x4 : Int32) (x5 : Int32) (x6 : Int32) (x7 : Int32) (x8 : Int32) (x9 : Int32) (x10 : Int32) (x11 : Int32) (x12 : Int32) (x13 : Int32) (r0 : Nat) (r1 : Nat) (t0 : Int32) (t1 : Int32) (z : ow_MS) : Option ow_MS :=
 rdF z (r0 + 10) fun v10 => wrF z (r0 + 10) (v10 + 1) fun z11 => (if x6 = 0 then go 3 x2 x3 x4 x5 x6 x7 (-1) x9 x10 x11 0 0 r0 r1 x5 0 z11
 else go 3 x2 x3 x4 x5 x6 x7 (-1) x9 x10 x11 0 0 r0 r1 x4 0 z11)
def cm_X7_load_3 (vl : Nat → Nat) (K : Nat) (go : Nat → Int32 → Int32 → Int32 → Int32 → Int32 → Int32 → Int32 → Int32 → Int32 → Int32 → Int32 → Int32 → Nat → Nat → Int32 → Int32 → ow_MS → Option ow_MS) (x2 : Int32) (x3 : Int32) (x4 : Int32) (x5 : Int32) (x6 : Int32) (x7 : Int32) (x8 : Int32) (x9 : Int32) (x10 : Int32) (x11 : Int32) (x12 : Int32) (x13 : Int32) (r0 : Nat) (r1 : Nat) (t0 : Int32) (t1 : Int32) (z : ow_MS) : Option ow_MS :=
 go 7 x2 x3 t0 x5 x6 x7 x8 x9 x10 x11 0 0 r0 r1 0 0 z
def cm_X7_load_4 (vl : Nat → Nat) (K : Nat) (go : Nat → Int32 → Int32 → Int32 → Int32 → Int32 → Int32 → Int32 → Int32 → Int32 → Int32 → Int32 → Int32 → Nat → Nat → Int32 → Int32 → ow_MS → Option ow_MS) (x2 : Int32) (x3 : Int32) (x4 : Int32) (x5 : Int32) (x6 : Int32) (x7 : Int32) (x8 : Int32) (x9 : Int32) (x10 : Int32) (x11 : Int32) (x12 : Int32) (x13 : Int32) (r0 : Nat) (r1 : Nat) (t0 : Int32) (t1 : Int32) (z : ow_MS) : Option ow_MS :=
 ctI (cX vl) z (r0 + 3) t1 t0 fun z12 => go 5 x2 x3 x4 x5 x6 x7 x8 x9 x10 x11 x12 0 r0 r1 0 0 z12
def cm_X7_load_5 (vl : Nat → Nat) (K : Nat) (go : Nat → Int32 → Int32 → Int32 → Int32 → Int32 → Int32 → Int32 → Int32 → Int32 → Int32 → Int32 → Int32 → Nat → Nat → Int32 → Int32 → ow_MS → Option ow_MS) (x2 : Int32) (x3 : Int32) (x4 : Int32) (x5 : Int32) (x6 : Int32) (x7 : Int32) (x8 : Int32) (x9 : Int32) (x10 : Int32) (x11 : Int32) (x12 : Int32) (x13 : Int32) (r0 : Nat) (r1 : Nat) (t0 : Int32) (t1 : Int32) (z : ow_MS) : Option ow_MS :=
 ctI (cX vl) z (r0 + 4) x7 ((2 * x12) + (((x11 : Int32) >>> ((1 : Int32) &&& 31)) &&& 1)) fun z13 => rdF z13 (r0 + 10) fun v14 => ctI (cX vl) z13 (r0 + 5) ((2 * x12) + (((x11 : Int32) >>> ((1 : Int32) &&& 31)) &&& 1)) v14 fun z15 => (if x8 = (-1) then go 6 x2 x3 x4 x5 x6 (x7 + 1) ((2 * x12) + (((x11 : Int32) >>> ((1 : Int32) &&& 31)) &&& 1)) x9 x10 x11 x12 ((2 * x12) + (((x11 : Int32) >>> ((1 : Int32) &&& 31)) &&& 1)) r0 r1 0 0 z15
 else cs0 (ce_X7_link vl K r0 x9 ((2 * x12) + (((x11 : Int32) >>> ((1 : Int32) &&& 31)) &&& 1)) z15) fun z16 => go 6 x2 x3 x4 x5 x6 (x7 + 1) x8 x9 x10 x11 x12 ((2 * x12) + (((x11 : Int32) >>> ((1 : Int32) &&& 31)) &&& 1)) r0 r1 0 0 z16)
def cm_X7_load_6 (vl : Nat → Nat) (K : Nat) (go : Nat → Int32 → Int32 → Int32 → Int32 → Int32 → Int32 → Int32 → Int32 → Int32 → Int32 → Int32 → Int32 → Nat → Nat → Int32 → Int32 → ow_MS → Option ow_MS) (x2 : Int32) (x3 : Int32) (x4 : Int32) (x5 : Int32) (x6 : Int32) (x7 : Int32) (x8 : Int32) (x9 : Int32) (x10 : Int32) (x11 : Int32) (x12 : Int32) (x13 : Int32) (r0 : Nat) (r1 : Nat) (t0 : Int32) (t1 : Int32) (z : ow_MS) : Option ow_MS :=
 go 7 x2 x3 x4 x5 x6 x7 x8 x13 x10 x11 0 0 r0 r1 0 0 z
def cm_X7_load_7 (vl : Nat → Nat) (K : Nat) (go : Nat → Int32 → Int32 → Int32 → Int32 → Int32 → Int32 → Int32 → Int32 → Int32 → Int32 → Int32 → Int32 → Nat → Nat → Int32 → Int32 → ow_MS → Option ow_MS) (x2 : Int32) (x3 : Int32) (x4 : Int32) (x5 : Int32) (x6 : Int32) (x7 : Int32) (x8 : Int32) (x9 : Int32) (x10 : Int32) (x11 : Int32) (x12 : Int32) (x13 : Int32) (r0 : Nat) (r1 : Nat) (t0 : Int32) (t1 : Int32) (z : ow_MS) : Option ow_MS :=
 go 1 x2 x3 x4 x5 x6 x7 x8 x9 (x10 + 1) 0 0 0 r0 r1 0 0 z
def cb_X7_load (vl : Nat → Nat) (K : Nat) (go : Nat → Int32 → Int32 → Int32 → Int32 → Int32 → Int32 → Int32 → Int32 → Int32 → Int32 → Int32 → Int32 → Nat → Nat → Int32 → Int32 → ow_MS → Option ow_MS) (L : Nat) (x2 : Int32) (x3 : Int32) (x4 : Int32) (x5 : Int32) (x6 : Int32) (x7 : Int32) (x8 : Int32) (x9 : Int32) (x10 : Int32) (x11 : Int32) (x12 : Int32) (x13 : Int32) (r0 : Nat) (r1 : Nat) (t0 : Int32) (t1 : Int32) (z : ow_MS) : Option ow_MS := match L with
  | 0 => cm_X7_load_0 vl K go x2 x3 x4 x5 x6 x7 x8 x9 x10 x11 x12 x13 r0 r1 t0 t1 z
  | 1 => cm_X7_load_1 vl K go x2 x3 x4 x5 x6 x7 x8 x9 x10 x11 x12 x13 r0 r1 t0 t1 z
  | 2 => cm_X7_load_2 vl K go x2 x3 x4 x5 x6 x7 x8 x9 x10 x11 x12 x13 r0 r1 t0 t1 z
  | 3 => cm_X7_load_3 vl K go x2 x3 x4 x5 x6 x7 x8 x9 x10 x11 x12 x13 r0 r1 t0 t1 z
  | 4 => cm_X7_load_4 vl K go x2 x3 x4 x5 x6 x7 x8 x9 x10 x11 x12 x13 r0 r1 t0 t1 z
  | 5 => cm_X7_load_5 vl K go x2 x3 x4 x5 x6 x7 x8 x9 x10 x11 x12 x13 r0 r1 t0 t1 z
  | 6 => cm_X7_load_6 vl K go x2 x3 x4 x5 x6 x7 x8 x9 x10 x11 x12 x13 r0 r1 t0 t1 z
  | 7 => cm_X7_load_7 vl K go x2 x3 x4 x5 x6 x7 x8 x9 x10 x11 x12 x13 r0 r1 t0 t1 z
  | _ => none
def c_X7_load (vl : Nat → Nat) (K : Nat) : Nat → Nat → Int32 → Int32 → Int32 → Int32 → Int32 → Int32 → Int32 → Int32 → Int32 → Int32 → Int32 → Int32 → Nat → Nat → Int32 → Int32 → ow_MS → Option ow_MS
  | 0 => fun _ _ _ _ _ _ _ _ _ _ _ _ _ _ _ _ _ _ => none
  | k + 1 => cb_X7_load vl K (c_X7_load vl K k)
def ce_X7_load (vl : Nat → Nat) (K : Nat) (r0 : Nat) (r1 : Nat) (x2 : Int32) (z : ow_MS) : Option ow_MS := c_X7_load vl K K 0 x2 0 0 0 0 0 0 0 0 0 0 0 r0 r1 0 0 z
abbrev wc_X7_load : List Cond := .code yX7_load cX7_load 14 none :: wC
theorem cdd_X7_load : yX7_load.cls = RX7 ∧ yX7_load.cls ≠ "java/lang/invoke/MethodHandle" ∧ yX7_load.cls ≠ "java/lang/invoke/VarHandle" ∧ (parseMethodDescriptor yX7_load.desc).map (fun d => d.parameters.length) = some 2 := by decide +kernel
set_option maxHeartbeats 4000000 in
set_option maxRecDepth 100000 in
theorem kc_X7_load (l : Launch) (D : va_G) (q : Nat → ClassId) (vl u : Nat → Nat) (hU0 : tw_inj (cX vl) u) (K : Nat) (r0 : Nat) (r1 : Nat) (x2 : Int32) (hr0 : cw_X7 r0) (hr1 : cw_X3 r1) (z z1 : ow_MS) (hq : ce_X7_load vl K r0 r1 x2 z = some z1) : Met l yX7_load wc_X7_load ({ frames := 1, cells := 0, slots := 0, locals := 22 } : Room) (va_Pc [.ref (u r0), .ref (u r1), .int x2] (cw_pre D q vl u z)) (va_Qv (fun (_ : Unit) => True) (fun _ t => va_P D vwCl (uw (cX vl) q u z1) t.heap) (tw_A (cX vl) u)) 0 0 (tw_A (cX vl) u) := by
  refine Met.ofW (cc := cX7_load) (maxL := 14) (ret := none) (by decide) rfl ?_
  intro p e s m args below meth c s₁ B hml hv
  obtain ⟨rfl, hP, hK⟩ := hv
  have hx := B.exec
  have hb := B.bytes
  have hr := B.returns
  have hts := atoms_spec (ws := wc_X7_load) B.pre
  have hT : ∀ w ∈ wC, w.before ([.ref (u r0), .ref (u r1), .int x2] : List Value).toArray s = true := fun w h => hts w (List.mem_cons_of_mem _ h)
  have hown : s.vm.findClass RX7 = some m.cls := findClass_of_methodNamed B.named
  have hlocks := B.notSynchronized
  have hU : uw_inj (cX vl) u (tw_A (cX vl) u) := ⟨hU0, fun h hh => ⟨h, hh, rfl⟩⟩
  have hM : uw_M D vwCl (cX vl) q (tw_A (cX vl) u) s.heap u z s.heap [] := ⟨hP, va_S.rf⟩
  have hl := lv_entry ([.ref (u r0), .ref (u r1), .int x2]) (n := 14) (Nat.le_of_ble_eq_true rfl)
  rw [lg_entry_eq]
  generalize (lg_sl ([.ref (u r0), .ref (u r1), .int x2]) ++ List.replicate (14 - (lg_sl ([.ref (u r0), .ref (u r1), .int x2])).length) Slot.unset).toArray = ls at hl ⊢
  have hl : lv_has ls 14 [(0, .ref (u r0)), (1, .ref (u r1)), (2, .int x2)] := hl
  refine ow_named (fun QQ hQQ => ?_)
  generalize ([.ref (u r0), .ref (u r1), .int x2] : List Value).toArray = args at hts hT hQQ ⊢
  have key : ∀ k : Nat, (∀ (x2 : Int32) (x3 : Int32) (x4 : Int32) (x5 : Int32) (x6 : Int32) (x7 : Int32) (x8 : Int32) (x9 : Int32) (x10 : Int32) (x11 : Int32) (x12 : Int32) (x13 : Int32) (r0 : Nat) (r1 : Nat) (t0 : Int32) (t1 : Int32) (z : ow_MS) (H : Heap) (locs : List Loc) (ls : Array Slot), cw_X7 r0 → cw_X3 r1 → uw_M D vwCl (cX vl) q (tw_A (cX vl) u) s.heap u z H locs → lv_has ls 14 [(0, .ref (u r0)), (1, .ref (u r1)), (2, .int x2)] → c_X7_load vl K k 0 x2 x3 x4 x5 x6 x7 x8 x9 x10 x11 x12 x13 r0 r1 t0 t1 z = some z1 → W p l e ({ frames := 1, cells := 0, slots := 0, locals := 22 } : Room) s m args below meth c H locs 0 0 QQ (F0 m 0 ls [])) ∧ (∀ (x2 : Int32) (x3 : Int32) (x4 : Int32) (x5 : Int32) (x6 : Int32) (x7 : Int32) (x8 : Int32) (x9 : Int32) (x10 : Int32) (x11 : Int32) (x12 : Int32) (x13 : Int32) (r0 : Nat) (r1 : Nat) (t0 : Int32) (t1 : Int32) (z : ow_MS) (H : Heap) (locs : List Loc) (ls : Array Slot), cw_X7 r0 → cw_X3 r1 → uw_M D vwCl (cX vl) q (tw_A (cX vl) u) s.heap u z H locs → lv_has ls 14 [(0, .ref (u r0)), (1, .ref (u r1)), (2, .int x2), (3, .int x3), (4, .int x4), (5, .int x5), (6, .int x6), (7, .int x7), (8, .int x8), (9, .int x9), (10, .int x10)] → c_X7_load vl K k 1 x2 x3 x4 x5 x6 x7 x8 x9 x10 x11 x12 x13 r0 r1 t0 t1 z = some z1 → W p l e ({ frames := 1, cells := 0, slots := 0, locals := 22 } : Room) s m args below meth c H locs 0 0 QQ (F0 m 46 ls [])) ∧ (∀ (x2 : Int32) (x3 : Int32) (x4 : Int32) (x5 : Int32) (x6 : Int32) (x7 : Int32) (x8 : Int32) (x9 : Int32) (x10 : Int32) (x11 : Int32) (x12 : Int32) (x13 : Int32) (r0 : Nat) (r1 : Nat) (t0 : Int32) (t1 : Int32) (z : ow_MS) (H : Heap) (locs : List Loc) (ls : Array Slot), cw_X7 r0 → cw_X3 r1 → uw_M D vwCl (cX vl) q (tw_A (cX vl) u) s.heap u z H locs → lv_has ls 14 [(0, .ref (u r0)), (1, .ref (u r1)), (2, .int x2), (3, .int x3), (4, .int x4), (5, .int x5), (6, .int x6), (7, .int x7), (8, .int x8), (9, .int x9), (10, .int x10), (11, .int x11)] → c_X7_load vl K k 2 x2 x3 x4 x5 x6 x7 x8 x9 x10 x11 x12 x13 r0 r1 t0 t1 z = some z1 → W p l e ({ frames := 1, cells := 0, slots := 0, locals := 22 } : Room) s m args below meth c H locs 0 0 QQ (F0 m 100 ls [])) ∧ (∀ (x2 : Int32) (x3 : Int32) (x4 : Int32) (x5 : Int32) (x6 : Int32) (x7 : Int32) (x8 : Int32) (x9 : Int32) (x10 : Int32) (x11 : Int32) (x12 : Int32) (x13 : Int32) (r0 : Nat) (r1 : Nat) (t0 : Int32) (t1 : Int32) (z : ow_MS) (H : Heap) (locs : List Loc) (ls : Array Slot), cw_X7 r0 → cw_X3 r1 → uw_M D vwCl (cX vl) q (tw_A (cX vl) u) s.heap u z H locs → lv_has ls 14 [(0, .ref (u r0)), (1, .ref (u r1)), (2, .int x2), (3, .int x3), (4, .int x4), (5, .int x5), (6, .int x6), (7, .int x7), (8, .int x8), (9, .int x9), (10, .int x10), (11, .int x11)] → c_X7_load vl K k 3 x2 x3 x4 x5 x6 x7 x8 x9 x10 x11 x12 x13 r0 r1 t0 t1 z = some z1 → W p l e ({ frames := 1, cells := 0, slots := 0, locals := 22 } : Room) s m args below meth c H locs 0 0 QQ (F0 m 125 ls [.int t0])) ∧ (∀ (x2 : Int32) (x3 : Int32) (x4 : Int32) (x5 : Int32) (x6 : Int32) (x7 : Int32) (x8 : Int32) (x9 : Int32) (x10 : Int32) (x11 : Int32) (x12 : Int32) (x13 : Int32) (r0 : Nat) (r1 : Nat) (t0 : Int32) (t1 : Int32) (z : ow_MS) (H : Heap) (locs : List Loc) (ls : Array Slot), cw_X7 r0 → cw_X3 r1 → uw_M D vwCl (cX vl) q (tw_A (cX vl) u) s.heap u z H locs → lv_has ls 14 [(0, .ref (u r0)), (1, .ref (u r1)), (2, .int x2), (3, .int x3), (4, .int x4), (5, .int x5), (6, .int x6), (7, .int x7), (8, .int x8), (9, .int x9), (10, .int x10), (11, .int x11), (12, .int x12)] → c_X7_load vl K k 4 x2 x3 x4 x5 x6 x7 x8 x9 x10 x11 x12 x13 r0 r1 t0 t1 z = some z1 → W p l e ({ frames := 1, cells := 0, slots := 0, locals := 22 } : Room) s m args below meth c H locs 0 0 QQ (F0 m 175 ls [.int t0, .int t1, .ref (u (r0 + 3))])) ∧ (∀ (x2 : Int32) (x3 : Int32) (x4 : Int32) (x5 : Int32) (x6 : Int32) (x7 : Int32) (x8 : Int32) (x9 : Int32) (x10 : Int32) (x11 : Int32) (x12 : Int32) (x13 : Int32) (r0 : Nat) (r1 : Nat) (t0 : Int32) (t1 : Int32) (z : ow_MS) (H : Heap) (locs : List Loc) (ls : Array Slot), cw_X7 r0 → cw_X3 r1 → uw_M D vwCl (cX vl) q (tw_A (cX vl) u) s.heap u z H locs → lv_has ls 14 [(0, .ref (u r0)), (1, .ref (u r1)), (2, .int x2), (3, .int x3), (4, .int x4), (5, .int x5), (6, .int x6), (7, .int x7), (8, .int x8), (9, .int x9), (10, .int x10), (11, .int x11), (12, .int x12)] → c_X7_load vl K k 5 x2 x3 x4 x5 x6 x7 x8 x9 x10 x11 x12 x13 r0 r1 t0 t1 z = some z1 → W p l e ({ frames := 1, cells := 0, slots := 0, locals := 22 } : Room) s m args below meth c H locs 0 0 QQ (F0 m 182 ls [])) ∧ (∀ (x2 : Int32) (x3 : Int32) (x4 : Int32) (x5 : Int32) (x6 : Int32) (x7 : Int32) (x8 : Int32) (x9 : Int32) (x10 : Int32) (x11 : Int32) (x12 : Int32) (x13 : Int32) (r0 : Nat) (r1 : Nat) (t0 : Int32) (t1 : Int32) (z : ow_MS) (H : Heap) (locs : List Loc) (ls : Array Slot), cw_X7 r0 → cw_X3 r1 → uw_M D vwCl (cX vl) q (tw_A (cX vl) u) s.heap u z H locs → lv_has ls 14 [(0, .ref (u r0)), (1, .ref (u r1)), (2, .int x2), (3, .int x3), (4, .int x4), (5, .int x5), (6, .int x6), (7, .int x7), (8, .int x8), (9, .int x9), (10, .int x10), (11, .int x11), (12, .int x12), (13, .int x13)] → c_X7_load vl K k 6 x2 x3 x4 x5 x6 x7 x8 x9 x10 x11 x12 x13 r0 r1 t0 t1 z = some z1 → W p l e ({ frames := 1, cells := 0, slots := 0, locals := 22 } : Room) s m args below meth c H locs 0 0 QQ (F0 m 239 ls [])) ∧ (∀ (x2 : Int32) (x3 : Int32) (x4 : Int32) (x5 : Int32) (x6 : Int32) (x7 : Int32) (x8 : Int32) (x9 : Int32) (x10 : Int32) (x11 : Int32) (x12 : Int32) (x13 : Int32) (r0 : Nat) (r1 : Nat) (t0 : Int32) (t1 : Int32) (z : ow_MS) (H : Heap) (locs : List Loc) (ls : Array Slot), cw_X7 r0 → cw_X3 r1 → uw_M D vwCl (cX vl) q (tw_A (cX vl) u) s.heap u z H locs → lv_has ls 14 [(0, .ref (u r0)), (1, .ref (u r1)), (2, .int x2), (3, .int x3), (4, .int x4), (5, .int x5), (6, .int x6), (7, .int x7), (8, .int x8), (9, .int x9), (10, .int x10), (11, .int x11)] → c_X7_load vl K k 7 x2 x3 x4 x5 x6 x7 x8 x9 x10 x11 x12 x13 r0 r1 t0 t1 z = some z1 → W p l e ({ frames := 1, cells := 0, slots := 0, locals := 22 } : Room) s m args below meth c H locs 0 0 QQ (F0 m 243 ls [])) := by
    intro k
    induction k with
    | zero => exact ⟨fun _ _ _ _ _ _ _ _ _ _ _ _ _ _ _ _ _ _ _ _ _ _ _ _ hq => cw_no hq, fun _ _ _ _ _ _ _ _ _ _ _ _ _ _ _ _ _ _ _ _ _ _ _ _ hq => cw_no hq, fun _ _ _ _ _ _ _ _ _ _ _ _ _ _ _ _ _ _ _ _ _ _ _ _ hq => cw_no hq, fun _ _ _ _ _ _ _ _ _ _ _ _ _ _ _ _ _ _ _ _ _ _ _ _ hq => cw_no hq, fun _ _ _ _ _ _ _ _ _ _ _ _ _ _ _ _ _ _ _ _ _ _ _ _ hq => cw_no hq, fun _ _ _ _ _ _ _ _ _ _ _ _ _ _ _ _ _ _ _ _ _ _ _ _ hq => cw_no hq, fun _ _ _ _ _ _ _ _ _ _ _ _ _ _ _ _ _ _ _ _ _ _ _ _ hq => cw_no hq, fun _ _ _ _ _ _ _ _ _ _ _ _ _ _ _ _ _ _ _ _ _ _ _ _ hq => cw_no hq⟩
    | succ k ih =>
      obtain ⟨ih_0, ih_1, ih_2, ih_3, ih_4, ih_5, ih_6, ih_7⟩ := ih
      refine ⟨?_, ?_, ?_, ?_, ?_, ?_, ?_, ?_⟩
      · intro x2 x3 x4 x5 x6 x7 x8 x9 x10 x11 x12 x13 r0 r1 t0 t1 z H locs ls hr0 hr1 hM hl hq
        have hq : cm_X7_load_0 vl K (c_X7_load vl K k) x2 x3 x4 x5 x6 x7 x8 x9 x10 x11 x12 x13 r0 r1 t0 t1 z = some z1 := hq
        unfold cm_X7_load_0 at hq
        refine lv_aload_n hx hb dcX7_load_0 rfl (lv_at hl 0 rfl) ?_
        refine lv_aload_n hx hb dcX7_load_1 rfl (lv_at hl 1 rfl) ?_
        refine vgX7_33 hx hb hT hown hK hM hr1 dcX7_load_2 ?_
        refine lv_iload_n hx hb dcX7_load_5 rfl (lv_at hl 2 rfl) ?_
        refine uw_bald cX_ok hx hb hK hM (cr_X3_2 hr1) hq dcX7_load_6 (fun v1 hq => ?_)
        refine vpX7_39 hx hb hT hown hK hM hU hr0 hq dcX7_load_7 (fun z2 H locs hM hq => ?_)
        refine lv_aload_n hx hb dcX7_load_10 rfl (lv_at hl 0 rfl) ?_
        refine lv_iconst (v := 0) hx hb dcX7_load_11 (by decide) ?_
        refine vpX7_42 hx hb hT hown hK hM hU hr0 hq dcX7_load_12 (fun z3 H locs hM hq => ?_)
        refine lv_aload_n hx hb dcX7_load_15 rfl (lv_at hl 0 rfl) ?_
        refine lv_iconst (v := 0) hx hb dcX7_load_16 (by decide) ?_
        refine vpX7_45 hx hb hT hown hK hM hU hr0 hq dcX7_load_17 (fun z4 H locs hM hq => ?_)
        refine lv_iload_n hx hb dcX7_load_20 rfl (lv_at hl 2 rfl) ?_
        refine lv_bipush (v := 30) hx hb dcX7_load_21 (by decide) ?_
        refine lv_imul hx hb dcX7_load_23 ?_
        refine lv_istore_n (lv' := [(3, .int (x2 * 30)), (0, .ref (u r0)), (1, .ref (u r1)), (2, .int x2)]) hx hb dcX7_load_24 rfl hl (by decide) rfl (fun ls hl => ?_)
        refine lv_iconst (v := 0) hx hb dcX7_load_25 (by decide) ?_
        refine lv_istore (lv' := [(4, .int 0), (3, .int (x2 * 30)), (0, .ref (u r0)), (1, .ref (u r1)), (2, .int x2)]) hx hb dcX7_load_26 hl (by decide) rfl (fun ls hl => ?_)
        refine lv_iconst (v := 0) hx hb dcX7_load_28 (by decide) ?_
        refine lv_istore (lv' := [(5, .int 0), (4, .int 0), (3, .int (x2 * 30)), (0, .ref (u r0)), (1, .ref (u r1)), (2, .int x2)]) hx hb dcX7_load_29 hl (by decide) rfl (fun ls hl => ?_)
        refine lv_iconst (v := 0) hx hb dcX7_load_31 (by decide) ?_
        refine lv_istore (lv' := [(6, .int 0), (5, .int 0), (4, .int 0), (3, .int (x2 * 30)), (0, .ref (u r0)), (1, .ref (u r1)), (2, .int x2)]) hx hb dcX7_load_32 hl (by decide) rfl (fun ls hl => ?_)
        refine lv_iconst (v := 0) hx hb dcX7_load_34 (by decide) ?_
        refine lv_istore (lv' := [(7, .int 0), (6, .int 0), (5, .int 0), (4, .int 0), (3, .int (x2 * 30)), (0, .ref (u r0)), (1, .ref (u r1)), (2, .int x2)]) hx hb dcX7_load_35 hl (by decide) rfl (fun ls hl => ?_)
        refine lv_iconst (v := (-1)) hx hb dcX7_load_37 (by decide) ?_
        refine lv_istore (lv' := [(8, .int (-1)), (7, .int 0), (6, .int 0), (5, .int 0), (4, .int 0), (3, .int (x2 * 30)), (0, .ref (u r0)), (1, .ref (u r1)), (2, .int x2)]) hx hb dcX7_load_38 hl (by decide) rfl (fun ls hl => ?_)
        refine lv_iconst (v := (-1)) hx hb dcX7_load_40 (by decide) ?_
        refine lv_istore (lv' := [(9, .int (-1)), (8, .int (-1)), (7, .int 0), (6, .int 0), (5, .int 0), (4, .int 0), (3, .int (x2 * 30)), (0, .ref (u r0)), (1, .ref (u r1)), (2, .int x2)]) hx hb dcX7_load_41 hl (by decide) rfl (fun ls hl => ?_)
        refine lv_iconst (v := 0) hx hb dcX7_load_43 (by decide) ?_
        refine lv_istore (lv' := [(10, .int 0), (9, .int (-1)), (8, .int (-1)), (7, .int 0), (6, .int 0), (5, .int 0), (4, .int 0), (3, .int (x2 * 30)), (0, .ref (u r0)), (1, .ref (u r1)), (2, .int x2)]) hx hb dcX7_load_44 hl (by decide) rfl (fun ls hl => ?_)
        exact ih_1 x2 (x2 * 30) 0 0 0 0 (-1) (-1) 0 0 0 0 r0 r1 0 0 z4 H locs ls hr0 hr1 hM (lv_sub hl [8, 9, 10, 7, 6, 5, 4, 3, 2, 1, 0] rfl) hq
      · intro x2 x3 x4 x5 x6 x7 x8 x9 x10 x11 x12 x13 r0 r1 t0 t1 z H locs ls hr0 hr1 hM hl hq
        have hq : cm_X7_load_1 vl K (c_X7_load vl K k) x2 x3 x4 x5 x6 x7 x8 x9 x10 x11 x12 x13 r0 r1 t0 t1 z = some z1 := hq
        unfold cm_X7_load_1 at hq
        refine lv_iload hx hb dcX7_load_46 (lv_at hl 10 rfl) ?_
        refine lv_aload_n hx hb dcX7_load_48 rfl (lv_at hl 1 rfl) ?_
        refine vgX7_48 hx hb hT hown hK hM hr1 dcX7_load_49 ?_
        refine lv_iload_n hx hb dcX7_load_52 rfl (lv_at hl 2 rfl) ?_
        refine uw_bald cX_ok hx hb hK hM (cr_X3_1 hr1) hq dcX7_load_53 (fun v5 hq => ?_)
        refine lv_icmp_ge (tgt := 249) hx hb dcX7_load_54 (by decide) (fun hc => ?_) (fun hc => ?_)
        · have hq := tw_it hq hc
          exact cw_vret hx hb hr hlocks hM hq hQQ dcX7_load_249
        · have hq := tw_if hq hc
          refine lv_aload_n hx hb dcX7_load_57 rfl (lv_at hl 1 rfl) ?_
          refine vgX7_51 hx hb hT hown hK hM hr1 dcX7_load_58 ?_
          refine lv_iload_n hx hb dcX7_load_61 rfl (lv_at hl 3 rfl) ?_
          refine lv_iload hx hb dcX7_load_62 (lv_at hl 10 rfl) ?_
          refine lv_iadd hx hb dcX7_load_64 ?_
          refine uw_bald cX_ok hx hb hK hM (cr_X3_0 hr1) hq dcX7_load_65 (fun v6 hq => ?_)
          refine lv_istore (lv' := [(11, .int v6), (0, .ref (u r0)), (1, .ref (u r1)), (2, .int x2), (3, .int x3), (4, .int x4), (5, .int x5), (6, .int x6), (7, .int x7), (8, .int x8), (9, .int x9), (10, .int x10)]) hx hb dcX7_load_66 hl (by decide) rfl (fun ls hl => ?_)
          refine lv_iload hx hb dcX7_load_68 (lv_at hl 0 rfl) ?_
          refine lv_if_ne (tgt := 130) hx hb dcX7_load_70 (by decide) (fun hc => ?_) (fun hc => ?_)
          · have hq := tw_if hq hc
            refine lv_iload hx hb dcX7_load_130 (lv_at hl 5 rfl) ?_
            refine lv_iload hx hb dcX7_load_132 (lv_at hl 0 rfl) ?_
            refine lv_iconst (v := 2) hx hb dcX7_load_134 (by decide) ?_
            refine lv_ishr hx hb dcX7_load_135 ?_
            refine lv_iadd hx hb dcX7_load_136 ?_
            refine lv_iconst (v := 1) hx hb dcX7_load_137 (by decide) ?_
            refine lv_isub hx hb dcX7_load_138 ?_
            refine lv_istore (lv' := [(12, .int ((x4 + ((v6 : Int32) >>> ((2 : Int32) &&& 31))) - 1)), (11, .int v6), (0, .ref (u r0)), (1, .ref (u r1)), (2, .int x2), (3, .int x3), (4, .int x4), (5, .int x5), (6, .int x6), (7, .int x7), (8, .int x8), (9, .int x9), (10, .int x10)]) hx hb dcX7_load_139 hl (by decide) rfl (fun ls hl => ?_)
            refine lv_iload hx hb dcX7_load_141 (lv_at hl 0 rfl) ?_
            refine lv_iload hx hb dcX7_load_143 (lv_at hl 7 rfl) ?_
            refine lv_icmp_lt (tgt := 179) hx hb dcX7_load_145 (by decide) (fun hc => ?_) (fun hc => ?_)
            · have hq := tw_it hq hc
              refine lv_iinc (v := (x6 + (-1))) (lv' := [(6, .int (x6 + (-1))), (12, .int ((x4 + ((v6 : Int32) >>> ((2 : Int32) &&& 31))) - 1)), (11, .int v6), (0, .ref (u r0)), (1, .ref (u r1)), (2, .int x2), (3, .int x3), (4, .int x4), (5, .int x5), (7, .int x7), (8, .int x8), (9, .int x9), (10, .int x10)]) hx hb dcX7_load_179 hl (k := 8) rfl rfl (by decide) rfl (fun ls hl => ?_)
              exact ih_5 x2 x3 x4 x5 (x6 + (-1)) x7 x8 x9 x10 v6 ((x4 + ((v6 : Int32) >>> ((2 : Int32) &&& 31))) - 1) 0 r0 r1 0 0 z H locs ls hr0 hr1 hM (lv_sub hl [3, 4, 5, 6, 7, 8, 0, 9, 10, 11, 12, 2, 1] rfl) hq
            · have hq := tw_if hq hc
              refine lv_iload hx hb dcX7_load_148 (lv_at hl 0 rfl) ?_
              refine lv_iconst (v := 1) hx hb dcX7_load_150 (by decide) ?_
              refine lv_iadd hx hb dcX7_load_151 ?_
              refine lv_istore (lv' := [(5, .int (((x4 + ((v6 : Int32) >>> ((2 : Int32) &&& 31))) - 1) + 1)), (12, .int ((x4 + ((v6 : Int32) >>> ((2 : Int32) &&& 31))) - 1)), (11, .int v6), (0, .ref (u r0)), (1, .ref (u r1)), (2, .int x2), (3, .int x3), (4, .int x4), (6, .int x6), (7, .int x7), (8, .int x8), (9, .int x9), (10, .int x10)]) hx hb dcX7_load_152 hl (by decide) rfl (fun ls hl => ?_)
              refine lv_iinc (v := (x6 + 1)) (lv' := [(6, .int (x6 + 1)), (5, .int (((x4 + ((v6 : Int32) >>> ((2 : Int32) &&& 31))) - 1) + 1)), (12, .int ((x4 + ((v6 : Int32) >>> ((2 : Int32) &&& 31))) - 1)), (11, .int v6), (0, .ref (u r0)), (1, .ref (u r1)), (2, .int x2), (3, .int x3), (4, .int x4), (7, .int x7), (8, .int x8), (9, .int x9), (10, .int x10)]) hx hb dcX7_load_154 hl (k := 8) rfl rfl (by decide) rfl (fun ls hl => ?_)
              refine lv_aload_n hx hb dcX7_load_157 rfl (lv_at hl 4 rfl) ?_
              refine vgX7_18 hx hb hT hown hK hM hr0 dcX7_load_158 ?_
              refine lv_iload hx hb dcX7_load_161 (lv_at hl 2 rfl) ?_
              refine lv_iload hx hb dcX7_load_163 (lv_at hl 3 rfl) ?_
              refine lv_iconst (v := 1) hx hb dcX7_load_165 (by decide) ?_
              refine lv_iand hx hb dcX7_load_166 ?_
              refine lv_if_ne (tgt := 174) hx hb dcX7_load_167 (by decide) (fun hc => ?_) (fun hc => ?_)
              · have hq := tw_if hq hc
                refine lv_iconst (v := (-1)) hx hb dcX7_load_174 (by decide) ?_
                exact ih_4 x2 x3 x4 (((x4 + ((v6 : Int32) >>> ((2 : Int32) &&& 31))) - 1) + 1) (x6 + 1) x7 x8 x9 x10 v6 ((x4 + ((v6 : Int32) >>> ((2 : Int32) &&& 31))) - 1) 0 r0 r1 (-1) ((x4 + ((v6 : Int32) >>> ((2 : Int32) &&& 31))) - 1) z H locs ls hr0 hr1 hM (lv_sub hl [4, 5, 6, 7, 8, 1, 0, 9, 10, 11, 12, 3, 2] rfl) hq
              · have hq := tw_it hq hc
                refine lv_iconst (v := 1) hx hb dcX7_load_170 (by decide) ?_
                refine lv_goto (tgt := 175) hx hb dcX7_load_171 (by decide) ?_
                exact ih_4 x2 x3 x4 (((x4 + ((v6 : Int32) >>> ((2 : Int32) &&& 31))) - 1) + 1) (x6 + 1) x7 x8 x9 x10 v6 ((x4 + ((v6 : Int32) >>> ((2 : Int32) &&& 31))) - 1) 0 r0 r1 1 ((x4 + ((v6 : Int32) >>> ((2 : Int32) &&& 31))) - 1) z H locs ls hr0 hr1 hM (lv_sub hl [4, 5, 6, 7, 8, 1, 0, 9, 10, 11, 12, 3, 2] rfl) hq
          · have hq := tw_it hq hc
            refine lv_iload hx hb dcX7_load_73 (lv_at hl 9 rfl) ?_
            refine lv_iconst (v := (-1)) hx hb dcX7_load_75 (by decide) ?_
            refine lv_icmp_ne (tgt := 92) hx hb dcX7_load_76 (by decide) (fun hc => ?_) (fun hc => ?_)
            · have hq := tw_if hq hc
              refine lv_aload_n hx hb dcX7_load_92 rfl (lv_at hl 1 rfl) ?_
              refine lv_iload hx hb dcX7_load_93 (lv_at hl 10 rfl) ?_
              refine lv_iload hx hb dcX7_load_95 (lv_at hl 9 rfl) ?_
              obtain ⟨z7, hcq, hq⟩ := tw_cl0 hq
              refine uw_calv hU hM (va_runV (As := [.int x9, .int x8]) (rest := []) ⟨hx, hb, hml, hown, hts⟩ (kc_X7_link l D q vl u hU.1 K r0 x9 x8 hr0 z z7 hcq) (cwV 2 hts (tw_gV wC_good xq_160 xq_161 xq_162 xq_54 xq_163) rfl rfl rfl cdd_X7_link ⟨(Nat.le_of_ble_eq_true rfl), (Nat.le_of_ble_eq_true rfl)⟩) (cw_preV hK hM (co_X7 hr0) rfl) rfl rfl hl.1 rfl (lv_room (Nat.le_of_ble_eq_true rfl)) dcX7_load_97 ⟨(Nat.le_of_ble_eq_true rfl), (Nat.le_of_ble_eq_true rfl)⟩) (fun H locs hM => ?_)
              exact ih_2 x2 x3 x4 x5 x6 x7 x8 x9 x10 v6 0 0 r0 r1 0 0 z7 H locs ls hr0 hr1 hM (lv_sub hl [1, 2, 3, 4, 5, 6, 7, 8, 9, 10, 11, 0] rfl) hq
            · have hq := tw_it hq hc
              refine lv_aload_n hx hb dcX7_load_79 rfl (lv_at hl 1 rfl) ?_
              refine lv_dup hx hb dcX7_load_80 rfl ?_
              refine vgX7_42 hx hb hT hown hK hM hr0 hq dcX7_load_81 (fun v8 hq => ?_)
              refine lv_iconst (v := 1) hx hb dcX7_load_84 (by decide) ?_
              refine lv_iadd hx hb dcX7_load_85 ?_
              refine vpX7_42 hx hb hT hown hK hM hU hr0 hq dcX7_load_86 (fun z9 H locs hM hq => ?_)
              refine lv_goto (tgt := 100) hx hb dcX7_load_89 (by decide) ?_
              exact ih_2 x2 x3 x4 x5 x6 x7 x8 x9 x10 v6 0 0 r0 r1 0 0 z9 H locs ls hr0 hr1 hM (lv_sub hl [1, 2, 3, 4, 5, 6, 7, 8, 9, 10, 11, 0] rfl) hq
      · intro x2 x3 x4 x5 x6 x7 x8 x9 x10 x11 x12 x13 r0 r1 t0 t1 z H locs ls hr0 hr1 hM hl hq
        have hq : cm_X7_load_2 vl K (c_X7_load vl K k) x2 x3 x4 x5 x6 x7 x8 x9 x10 x11 x12 x13 r0 r1 t0 t1 z = some z1 := hq
        unfold cm_X7_load_2 at hq
        refine lv_aload_n hx hb dcX7_load_100 rfl (lv_at hl 0 rfl) ?_
        refine lv_dup hx hb dcX7_load_101 rfl ?_
        refine vgX7_45 hx hb hT hown hK hM hr0 hq dcX7_load_102 (fun v10 hq => ?_)
        refine lv_iconst (v := 1) hx hb dcX7_load_105 (by decide) ?_
        refine lv_iadd hx hb dcX7_load_106 ?_
        refine vpX7_45 hx hb hT hown hK hM hU hr0 hq dcX7_load_107 (fun z11 H locs hM hq => ?_)
        refine lv_iconst (v := (-1)) hx hb dcX7_load_110 (by decide) ?_
        refine lv_istore (lv' := [(8, .int (-1)), (0, .ref (u r0)), (1, .ref (u r1)), (2, .int x2), (3, .int x3), (4, .int x4), (5, .int x5), (6, .int x6), (7, .int x7), (9, .int x9), (10, .int x10), (11, .int x11)]) hx hb dcX7_load_111 hl (by decide) rfl (fun ls hl => ?_)
        refine lv_iload hx hb dcX7_load_113 (lv_at hl 7 rfl) ?_
        refine lv_if_ne (tgt := 123) hx hb dcX7_load_115 (by decide) (fun hc => ?_) (fun hc => ?_)
        · have hq := tw_if hq hc
          refine lv_iload hx hb dcX7_load_123 (lv_at hl 5 rfl) ?_
          exact ih_3 x2 x3 x4 x5 x6 x7 (-1) x9 x10 x11 0 0 r0 r1 x4 0 z11 H locs ls hr0 hr1 hM (lv_sub hl [1, 2, 3, 4, 5, 6, 7, 8, 0, 9, 10, 11] rfl) hq
        · have hq := tw_it hq hc
          refine lv_iload hx hb dcX7_load_118 (lv_at hl 6 rfl) ?_
          refine lv_goto (tgt := 125) hx hb dcX7_load_120 (by decide) ?_
          exact ih_3 x2 x3 x4 x5 x6 x7 (-1) x9 x10 x11 0 0 r0 r1 x5 0 z11 H locs ls hr0 hr1 hM (lv_sub hl [1, 2, 3, 4, 5, 6, 7, 8, 0, 9, 10, 11] rfl) hq
      · intro x2 x3 x4 x5 x6 x7 x8 x9 x10 x11 x12 x13 r0 r1 t0 t1 z H locs ls hr0 hr1 hM hl hq
        have hq : cm_X7_load_3 vl K (c_X7_load vl K k) x2 x3 x4 x5 x6 x7 x8 x9 x10 x11 x12 x13 r0 r1 t0 t1 z = some z1 := hq
        unfold cm_X7_load_3 at hq
        refine lv_istore (lv' := [(4, .int t0), (0, .ref (u r0)), (1, .ref (u r1)), (2, .int x2), (3, .int x3), (5, .int x5), (6, .int x6), (7, .int x7), (8, .int x8), (9, .int x9), (10, .int x10), (11, .int x11)]) hx hb dcX7_load_125 hl (by decide) rfl (fun ls hl => ?_)
        refine lv_goto (tgt := 243) hx hb dcX7_load_127 (by decide) ?_
        exact ih_7 x2 x3 t0 x5 x6 x7 x8 x9 x10 x11 0 0 r0 r1 0 0 z H locs ls hr0 hr1 hM (lv_sub hl [1, 2, 3, 4, 0, 5, 6, 7, 8, 9, 10, 11] rfl) hq
      · intro x2 x3 x4 x5 x6 x7 x8 x9 x10 x11 x12 x13 r0 r1 t0 t1 z H locs ls hr0 hr1 hM hl hq
        have hq : cm_X7_load_4 vl K (c_X7_load vl K k) x2 x3 x4 x5 x6 x7 x8 x9 x10 x11 x12 x13 r0 r1 t0 t1 z = some z1 := hq
        unfold cm_X7_load_4 at hq
        refine uw_iast cX_ok hU hx hb hK hM (cr_X7_2 hr0) hq dcX7_load_175 (fun z12 H locs hM hq => ?_)
        refine lv_goto (tgt := 182) hx hb dcX7_load_176 (by decide) ?_
        exact ih_5 x2 x3 x4 x5 x6 x7 x8 x9 x10 x11 x12 0 r0 r1 0 0 z12 H locs ls hr0 hr1 hM (lv_sub hl [0, 1, 2, 3, 4, 5, 6, 7, 8, 9, 10, 11, 12] rfl) hq
      · intro x2 x3 x4 x5 x6 x7 x8 x9 x10 x11 x12 x13 r0 r1 t0 t1 z H locs ls hr0 hr1 hM hl hq
        have hq : cm_X7_load_5 vl K (c_X7_load vl K k) x2 x3 x4 x5 x6 x7 x8 x9 x10 x11 x12 x13 r0 r1 t0 t1 z = some z1 := hq
        unfold cm_X7_load_5 at hq
        refine lv_iconst (v := 2) hx hb dcX7_load_182 (by decide) ?_
        refine lv_iload hx hb dcX7_load_183 (lv_at hl 12 rfl) ?_
        refine lv_imul hx hb dcX7_load_185 ?_
        refine lv_iload hx hb dcX7_load_186 (lv_at hl 11 rfl) ?_
        refine lv_iconst (v := 1) hx hb dcX7_load_188 (by decide) ?_
        refine lv_ishr hx hb dcX7_load_189 ?_
        refine lv_iconst (v := 1) hx hb dcX7_load_190 (by decide) ?_
        refine lv_iand hx hb dcX7_load_191 ?_
        refine lv_iadd hx hb dcX7_load_192 ?_
        refine lv_istore (lv' := [(13, .int ((2 * x12) + (((x11 : Int32) >>> ((1 : Int32) &&& 31)) &&& 1))), (0, .ref (u r0)), (1, .ref (u r1)), (2, .int x2), (3, .int x3), (4, .int x4), (5, .int x5), (6, .int x6), (7, .int x7), (8, .int x8), (9, .int x9), (10, .int x10), (11, .int x11), (12, .int x12)]) hx hb dcX7_load_193 hl (by decide) rfl (fun ls hl => ?_)
        refine lv_aload_n hx hb dcX7_load_195 rfl (lv_at hl 1 rfl) ?_
        refine vgX7_21 hx hb hT hown hK hM hr0 dcX7_load_196 ?_
        refine lv_iload hx hb dcX7_load_199 (lv_at hl 8 rfl) ?_
        refine lv_iload hx hb dcX7_load_201 (lv_at hl 0 rfl) ?_
        refine uw_iast cX_ok hU hx hb hK hM (cr_X7_3 hr0) hq dcX7_load_203 (fun z13 H locs hM hq => ?_)
        refine lv_iinc (v := (x7 + 1)) (lv' := [(7, .int (x7 + 1)), (13, .int ((2 * x12) + (((x11 : Int32) >>> ((1 : Int32) &&& 31)) &&& 1))), (0, .ref (u r0)), (1, .ref (u r1)), (2, .int x2), (3, .int x3), (4, .int x4), (5, .int x5), (6, .int x6), (8, .int x8), (9, .int x9), (10, .int x10), (11, .int x11), (12, .int x12)]) hx hb dcX7_load_204 hl (k := 8) rfl rfl (by decide) rfl (fun ls hl => ?_)
        refine lv_aload_n hx hb dcX7_load_207 rfl (lv_at hl 2 rfl) ?_
        refine vgX7_24 hx hb hT hown hK hM hr0 dcX7_load_208 ?_
        refine lv_iload hx hb dcX7_load_211 (lv_at hl 1 rfl) ?_
        refine lv_aload_n hx hb dcX7_load_213 rfl (lv_at hl 2 rfl) ?_
        refine vgX7_45 hx hb hT hown hK hM hr0 hq dcX7_load_214 (fun v14 hq => ?_)
        refine uw_iast cX_ok hU hx hb hK hM (cr_X7_4 hr0) hq dcX7_load_217 (fun z15 H locs hM hq => ?_)
        refine lv_iload hx hb dcX7_load_218 (lv_at hl 9 rfl) ?_
        refine lv_iconst (v := (-1)) hx hb dcX7_load_220 (by decide) ?_
        refine lv_icmp_ne (tgt := 231) hx hb dcX7_load_221 (by decide) (fun hc => ?_) (fun hc => ?_)
        · have hq := tw_if hq hc
          refine lv_aload_n hx hb dcX7_load_231 rfl (lv_at hl 2 rfl) ?_
          refine lv_iload hx hb dcX7_load_232 (lv_at hl 10 rfl) ?_
          refine lv_iload hx hb dcX7_load_234 (lv_at hl 1 rfl) ?_
          obtain ⟨z16, hcq, hq⟩ := tw_cl0 hq
          refine uw_calv hU hM (va_runV (As := [.int x9, .int ((2 * x12) + (((x11 : Int32) >>> ((1 : Int32) &&& 31)) &&& 1))]) (rest := []) ⟨hx, hb, hml, hown, hts⟩ (kc_X7_link l D q vl u hU.1 K r0 x9 ((2 * x12) + (((x11 : Int32) >>> ((1 : Int32) &&& 31)) &&& 1)) hr0 z15 z16 hcq) (cwV 2 hts (tw_gV wC_good xq_160 xq_161 xq_162 xq_54 xq_163) rfl rfl rfl cdd_X7_link ⟨(Nat.le_of_ble_eq_true rfl), (Nat.le_of_ble_eq_true rfl)⟩) (cw_preV hK hM (co_X7 hr0) rfl) rfl rfl hl.1 rfl (lv_room (Nat.le_of_ble_eq_true rfl)) dcX7_load_236 ⟨(Nat.le_of_ble_eq_true rfl), (Nat.le_of_ble_eq_true rfl)⟩) (fun H locs hM => ?_)
          exact ih_6 x2 x3 x4 x5 x6 (x7 + 1) x8 x9 x10 x11 x12 ((2 * x12) + (((x11 : Int32) >>> ((1 : Int32) &&& 31)) &&& 1)) r0 r1 0 0 z16 H locs ls hr0 hr1 hM (lv_sub hl [2, 3, 4, 5, 6, 7, 8, 0, 9, 10, 11, 12, 13, 1] rfl) hq
        · have hq := tw_it hq hc
          refine lv_iload hx hb dcX7_load_224 (lv_at hl 1 rfl) ?_
          refine lv_istore (lv' := [(8, .int ((2 * x12) + (((x11 : Int32) >>> ((1 : Int32) &&& 31)) &&& 1))), (7, .int (x7 + 1)), (13, .int ((2 * x12) + (((x11 : Int32) >>> ((1 : Int32) &&& 31)) &&& 1))), (0, .ref (u r0)), (1, .ref (u r1)), (2, .int x2), (3, .int x3), (4, .int x4), (5, .int x5), (6, .int x6), (9, .int x9), (10, .int x10), (11, .int x11), (12, .int x12)]) hx hb dcX7_load_226 hl (by decide) rfl (fun ls hl => ?_)
          refine lv_goto (tgt := 239) hx hb dcX7_load_228 (by decide) ?_
          exact ih_6 x2 x3 x4 x5 x6 (x7 + 1) ((2 * x12) + (((x11 : Int32) >>> ((1 : Int32) &&& 31)) &&& 1)) x9 x10 x11 x12 ((2 * x12) + (((x11 : Int32) >>> ((1 : Int32) &&& 31)) &&& 1)) r0 r1 0 0 z15 H locs ls hr0 hr1 hM (lv_sub hl [3, 4, 5, 6, 7, 8, 9, 1, 0, 10, 11, 12, 13, 2] rfl) hq
      · intro x2 x3 x4 x5 x6 x7 x8 x9 x10 x11 x12 x13 r0 r1 t0 t1 z H locs ls hr0 hr1 hM hl hq
        have hq : cm_X7_load_6 vl K (c_X7_load vl K k) x2 x3 x4 x5 x6 x7 x8 x9 x10 x11 x12 x13 r0 r1 t0 t1 z = some z1 := hq
        unfold cm_X7_load_6 at hq
        refine lv_iload hx hb dcX7_load_239 (lv_at hl 13 rfl) ?_
        refine lv_istore (lv' := [(9, .int x13), (0, .ref (u r0)), (1, .ref (u r1)), (2, .int x2), (3, .int x3), (4, .int x4), (5, .int x5), (6, .int x6), (7, .int x7), (8, .int x8), (10, .int x10), (11, .int x11), (12, .int x12), (13, .int x13)]) hx hb dcX7_load_241 hl (by decide) rfl (fun ls hl => ?_)
        exact ih_7 x2 x3 x4 x5 x6 x7 x8 x13 x10 x11 0 0 r0 r1 0 0 z H locs ls hr0 hr1 hM (lv_sub hl [1, 2, 3, 4, 5, 6, 7, 8, 9, 0, 10, 11] rfl) hq
      · intro x2 x3 x4 x5 x6 x7 x8 x9 x10 x11 x12 x13 r0 r1 t0 t1 z H locs ls hr0 hr1 hM hl hq
        have hq : cm_X7_load_7 vl K (c_X7_load vl K k) x2 x3 x4 x5 x6 x7 x8 x9 x10 x11 x12 x13 r0 r1 t0 t1 z = some z1 := hq
        unfold cm_X7_load_7 at hq
        refine lv_iinc (v := (x10 + 1)) (lv' := [(10, .int (x10 + 1)), (0, .ref (u r0)), (1, .ref (u r1)), (2, .int x2), (3, .int x3), (4, .int x4), (5, .int x5), (6, .int x6), (7, .int x7), (8, .int x8), (9, .int x9), (11, .int x11)]) hx hb dcX7_load_243 hl (k := 10) rfl rfl (by decide) rfl (fun ls hl => ?_)
        refine lv_goto (tgt := 46) hx hb dcX7_load_246 (by decide) ?_
        exact ih_1 x2 x3 x4 x5 x6 x7 x8 x9 (x10 + 1) 0 0 0 r0 r1 0 0 z H locs ls hr0 hr1 hM (lv_sub hl [1, 2, 3, 4, 5, 6, 7, 8, 9, 10, 0] rfl) hq
  exact (key K).1 x2 0 0 0 0 0 0 0 0 0 0 0 r0 r1 0 0 z s.heap [] ls hr0 hr1 hM (lv_sub hl [0, 1, 2] rfl) hq
theorem dcX6_collect_0 : decode cX6_collect 0 = .ok (.aload_n 0, 1) := dw_at cX6_collect_k0 (p := 0) rfl (by decide +kernel)
theorem dcX6_collect_1 : decode cX6_collect 1 = .ok (.getfield 29, 3) := dw_at cX6_collect_k0 (p := 1) rfl (by decide +kernel)
theorem dcX6_collect_4 : decode cX6_collect 4 = .ok (.aload_n 1, 1) := dw_at cX6_collect_k0 (p := 4) rfl (by decide +kernel)
theorem dcX6_collect_5 : decode cX6_collect 5 = .ok (.iload_n 2, 1) := dw_at cX6_collect_k0 (p := 5) rfl (by decide +kernel)
theorem dcX6_collect_6 : decode cX6_collect 6 = .ok (.invokevirtual 53, 3) := dw_at cX6_collect_k0 (p := 6) rfl (by decide +kernel)
theorem dcX6_collect_9 : decode cX6_collect 9 = .ok (.iload_n 3, 1) := dw_at cX6_collect_k0 (p := 9) rfl (by decide +kernel)
theorem dcX6_collect_10 : decode cX6_collect 10 = .ok (.iconst 3, 1) := dw_at cX6_collect_k0 (p := 10) rfl (by decide +kernel)
theorem dcX6_collect_11 : decode cX6_collect 11 = .ok (.if_icmp .ne 21, 3) := dw_at cX6_collect_k0 (p := 11) rfl (by decide +kernel)
theorem dcX6_collect_14 : decode cX6_collect 14 = .ok (.aload_n 0, 1) := dw_at cX6_collect_k0 (p := 14) rfl (by decide +kernel)
theorem dcX6_collect_15 : decode cX6_collect 15 = .ok (.getfield 29, 3) := dw_at cX6_collect_k0 (p := 15) rfl (by decide +kernel)
theorem dcX6_collect_18 : decode cX6_collect 18 = .ok (.invokevirtual 57, 3) := dw_at cX6_collect_k0 (p := 18) rfl (by decide +kernel)
theorem dcX6_collect_21 : decode cX6_collect 21 = .ok (.aload_n 0, 1) := dw_at cX6_collect_k0 (p := 21) rfl (by decide +kernel)
theorem dcX6_collect_22 : decode cX6_collect 22 = .ok (.getfield 39, 3) := dw_at cX6_collect_k0 (p := 22) rfl (by decide +kernel)
theorem dcX6_collect_25 : decode cX6_collect 25 = .ok (.aload_n 0, 1) := dw_at cX6_collect_k1 (p := 0) rfl (by decide +kernel)
theorem dcX6_collect_26 : decode cX6_collect 26 = .ok (.getfield 29, 3) := dw_at cX6_collect_k1 (p := 1) rfl (by decide +kernel)
theorem dcX6_collect_29 : decode cX6_collect 29 = .ok (.invokevirtual 60, 3) := dw_at cX6_collect_k1 (p := 4) rfl (by decide +kernel)
theorem dcX6_collect_32 : decode cX6_collect 32 = .ok (.aload_n 0, 1) := dw_at cX6_collect_k1 (p := 7) rfl (by decide +kernel)
theorem dcX6_collect_33 : decode cX6_collect 33 = .ok (.iload_n 3, 1) := dw_at cX6_collect_k1 (p := 8) rfl (by decide +kernel)
theorem dcX6_collect_34 : decode cX6_collect 34 = .ok (.invokevirtual 64, 3) := dw_at cX6_collect_k1 (p := 9) rfl (by decide +kernel)
theorem dcX6_collect_37 : decode cX6_collect 37 = .ok (.istore 5, 2) := dw_at cX6_collect_k1 (p := 12) rfl (by decide +kernel)
theorem dcX6_collect_39 : decode cX6_collect 39 = .ok (.iconst 0, 1) := dw_at cX6_collect_k1 (p := 14) rfl (by decide +kernel)
theorem dcX6_collect_40 : decode cX6_collect 40 = .ok (.istore 6, 2) := dw_at cX6_collect_k1 (p := 15) rfl (by decide +kernel)
theorem dcX6_collect_42 : decode cX6_collect 42 = .ok (.iload 6, 2) := dw_at cX6_collect_k1 (p := 17) rfl (by decide +kernel)
theorem dcX6_collect_44 : decode cX6_collect 44 = .ok (.iload 5, 2) := dw_at cX6_collect_k1 (p := 19) rfl (by decide +kernel)
theorem dcX6_collect_46 : decode cX6_collect 46 = .ok (.if_icmp .ge 43, 3) := dw_at cX6_collect_k1 (p := 21) rfl (by decide +kernel)
theorem dcX6_collect_49 : decode cX6_collect 49 = .ok (.aload_n 0, 1) := dw_at cX6_collect_k2 (p := 0) rfl (by decide +kernel)
theorem dcX6_collect_50 : decode cX6_collect 50 = .ok (.iload_n 3, 1) := dw_at cX6_collect_k2 (p := 1) rfl (by decide +kernel)
theorem dcX6_collect_51 : decode cX6_collect 51 = .ok (.iload 6, 2) := dw_at cX6_collect_k2 (p := 2) rfl (by decide +kernel)
theorem dcX6_collect_53 : decode cX6_collect 53 = .ok (.invokevirtual 68, 3) := dw_at cX6_collect_k2 (p := 4) rfl (by decide +kernel)
theorem dcX6_collect_56 : decode cX6_collect 56 = .ok (.ifCond .eq 27, 3) := dw_at cX6_collect_k2 (p := 7) rfl (by decide +kernel)
theorem dcX6_collect_59 : decode cX6_collect 59 = .ok (.aload_n 0, 1) := dw_at cX6_collect_k2 (p := 10) rfl (by decide +kernel)
theorem dcX6_collect_60 : decode cX6_collect 60 = .ok (.getfield 49, 3) := dw_at cX6_collect_k2 (p := 11) rfl (by decide +kernel)
theorem dcX6_collect_63 : decode cX6_collect 63 = .ok (.aload_n 0, 1) := dw_at cX6_collect_k2 (p := 14) rfl (by decide +kernel)
theorem dcX6_collect_64 : decode cX6_collect 64 = .ok (.getfield 33, 3) := dw_at cX6_collect_k2 (p := 15) rfl (by decide +kernel)
theorem dcX6_collect_67 : decode cX6_collect 67 = .ok (.invokevirtual 72, 3) := dw_at cX6_collect_k2 (p := 18) rfl (by decide +kernel)
theorem dcX6_collect_70 : decode cX6_collect 70 = .ok (.aload 4, 2) := dw_at cX6_collect_k2 (p := 21) rfl (by decide +kernel)
theorem dcX6_collect_72 : decode cX6_collect 72 = .ok (.aload_n 0, 1) := dw_at cX6_collect_k2 (p := 23) rfl (by decide +kernel)
theorem dcX6_collect_73 : decode cX6_collect 73 = .ok (.getfield 49, 3) := dw_at cX6_collect_k3 (p := 0) rfl (by decide +kernel)
theorem dcX6_collect_76 : decode cX6_collect 76 = .ok (.getfield 75, 3) := dw_at cX6_collect_k3 (p := 3) rfl (by decide +kernel)
theorem dcX6_collect_79 : decode cX6_collect 79 = .ok (.iconst 0, 1) := dw_at cX6_collect_k3 (p := 6) rfl (by decide +kernel)
theorem dcX6_collect_80 : decode cX6_collect 80 = .ok (.invokevirtual 78, 3) := dw_at cX6_collect_k3 (p := 7) rfl (by decide +kernel)
theorem dcX6_collect_83 : decode cX6_collect 83 = .ok (.iinc 6 1, 3) := dw_at cX6_collect_k3 (p := 10) rfl (by decide +kernel)
theorem dcX6_collect_86 : decode cX6_collect 86 = .ok (.goto (-44), 3) := dw_at cX6_collect_k3 (p := 13) rfl (by decide +kernel)
theorem dcX6_collect_89 : decode cX6_collect 89 = .ok (.return_, 1) := dw_at cX6_collect_k3 (p := 16) rfl (by decide +kernel)
def cm_X6_collect_0 (vl : Nat → Nat) (K : Nat) (go : Nat → Int32 → Int32 → Int32 → Int32 → Nat → Nat → Nat → ow_MS → Option ow_MS) (x2 : Int32) (x3 : Int32) (x5 : Int32) (x6 : Int32) (r0 : Nat) (r1 : Nat) (r4 : Nat) (z : ow_MS) : Option ow_MS :=
 cs0 (ce_X7_load vl K (r0 + 4000) r1 x2 z) fun z1 => (if x3 = 3 then cs0 (ce_X7_markParts vl K (r0 + 4000) z1) fun z2 => cs0 (ce_X4_mark vl K (r0 + 6000) (r0 + 4000) z2) fun z3 => go 1 x2 x3 0 0 r0 r1 r4 z3
 else go 1 x2 x3 0 0 r0 r1 r4 z1)
def cm_X6_collect_1 (vl : Nat → Nat) (K : Nat) (go : Nat → Int32 → Int32 → Int32 → Int32 → Nat → Nat → Nat → ow_MS → Option ow_MS) (x2 : Int32) (x3 : Int32) (x5 : Int32) (x6 : Int32) (r0 : Nat) (r1 : Nat) (r4 : Nat) (z : ow_MS) : Option ow_MS :=
 cs1 (ce_X6_countNumbers vl K r0 x3 z) fun v5 z4 => go 2 x2 x3 v5 0 r0 r1 r4 z4
def cm_X6_collect_2 (vl : Nat → Nat) (K : Nat) (go : Nat → Int32 → Int32 → Int32 → Int32 → Nat → Nat → Nat → ow_MS → Option ow_MS) (x2 : Int32) (x3 : Int32) (x5 : Int32) (x6 : Int32) (r0 : Nat) (r1 : Nat) (r4 : Nat) (z : ow_MS) : Option ow_MS :=
 (if x5 ≤ x6 then some z
 else cs1 (ce_X6_make vl K r0 x3 x6 z) fun v7 z6 => (if v7 = 0 then go 3 x2 x3 x5 x6 r0 r1 r4 z6
 else cs0 (ce_X2_encode vl K (r0 + 8000) (r0 + 5000) z6) fun z8 => cs0 (ce_X3_addNew vl K r4 ((r0 + 8000) + 1000) 0 z8) fun z9 => go 3 x2 x3 x5 x6 r0 r1 r4 z9))
def cm_X6_collect_3 (vl : Nat → Nat) (K : Nat) (go : Nat → Int32 → Int32 → Int32 → Int32 → Nat → Nat → Nat → ow_MS → Option ow_MS) (x2 : Int32) (x3 : Int32) (x5 : Int32) (x6 : Int32) (r0 : Nat) (r1 : Nat) (r4 : Nat) (z : ow_MS) : Option ow_MS :=
 go 2 x2 x3 x5 (x6 + 1) r0 r1 r4 z
def cb_X6_collect (vl : Nat → Nat) (K : Nat) (go : Nat → Int32 → Int32 → Int32 → Int32 → Nat → Nat → Nat → ow_MS → Option ow_MS) (L : Nat) (x2 : Int32) (x3 : Int32) (x5 : Int32) (x6 : Int32) (r0 : Nat) (r1 : Nat) (r4 : Nat) (z : ow_MS) : Option ow_MS := match L with
  | 0 => cm_X6_collect_0 vl K go x2 x3 x5 x6 r0 r1 r4 z
  | 1 => cm_X6_collect_1 vl K go x2 x3 x5 x6 r0 r1 r4 z
  | 2 => cm_X6_collect_2 vl K go x2 x3 x5 x6 r0 r1 r4 z
  | 3 => cm_X6_collect_3 vl K go x2 x3 x5 x6 r0 r1 r4 z
  | _ => none
def c_X6_collect (vl : Nat → Nat) (K : Nat) : Nat → Nat → Int32 → Int32 → Int32 → Int32 → Nat → Nat → Nat → ow_MS → Option ow_MS
  | 0 => fun _ _ _ _ _ _ _ _ _ => none
  | k + 1 => cb_X6_collect vl K (c_X6_collect vl K k)
def ce_X6_collect (vl : Nat → Nat) (K : Nat) (r0 : Nat) (r1 : Nat) (x2 : Int32) (x3 : Int32) (r4 : Nat) (z : ow_MS) : Option ow_MS := c_X6_collect vl K K 0 x2 x3 0 0 r0 r1 r4 z
abbrev wc_X6_collect : List Cond := .code yX6_collect cX6_collect 7 none :: wC
theorem cdd_X6_collect : yX6_collect.cls = RX6 ∧ yX6_collect.cls ≠ "java/lang/invoke/MethodHandle" ∧ yX6_collect.cls ≠ "java/lang/invoke/VarHandle" ∧ (parseMethodDescriptor yX6_collect.desc).map (fun d => d.parameters.length) = some 4 := by decide +kernel
set_option maxHeartbeats 4000000 in
set_option maxRecDepth 100000 in
theorem kc_X6_collect (l : Launch) (D : va_G) (q : Nat → ClassId) (vl u : Nat → Nat) (hU0 : tw_inj (cX vl) u) (K : Nat) (r0 : Nat) (r1 : Nat) (x2 : Int32) (x3 : Int32) (r4 : Nat) (hr0 : cw_X6 r0) (hr1 : cw_X3 r1) (hr4 : cw_X3 r4) (z z1 : ow_MS) (hq : ce_X6_collect vl K r0 r1 x2 x3 r4 z = some z1) : Met l yX6_collect wc_X6_collect ({ frames := 6, cells := 0, slots := 0, locals := 155 } : Room) (va_Pc [.ref (u r0), .ref (u r1), .int x2, .int x3, .ref (u r4)] (cw_pre D q vl u z)) (va_Qv (fun (_ : Unit) => True) (fun _ t => va_P D vwCl (uw (cX vl) q u z1) t.heap) (tw_A (cX vl) u)) 0 0 (tw_A (cX vl) u) := by
  refine Met.ofW (cc := cX6_collect) (maxL := 7) (ret := none) (by decide) rfl ?_
  intro p e s m args below meth c s₁ B hml hv
  obtain ⟨rfl, hP, hK⟩ := hv
  have hx := B.exec
  have hb := B.bytes
  have hr := B.returns
  have hts := atoms_spec (ws := wc_X6_collect) B.pre
  have hT : ∀ w ∈ wC, w.before ([.ref (u r0), .ref (u r1), .int x2, .int x3, .ref (u r4)] : List Value).toArray s = true := fun w h => hts w (List.mem_cons_of_mem _ h)
  have hown : s.vm.findClass RX6 = some m.cls := findClass_of_methodNamed B.named
  have hlocks := B.notSynchronized
  have hU : uw_inj (cX vl) u (tw_A (cX vl) u) := ⟨hU0, fun h hh => ⟨h, hh, rfl⟩⟩
  have hM : uw_M D vwCl (cX vl) q (tw_A (cX vl) u) s.heap u z s.heap [] := ⟨hP, va_S.rf⟩
  have hl := lv_entry ([.ref (u r0), .ref (u r1), .int x2, .int x3, .ref (u r4)]) (n := 7) (Nat.le_of_ble_eq_true rfl)
  rw [lg_entry_eq]
  generalize (lg_sl ([.ref (u r0), .ref (u r1), .int x2, .int x3, .ref (u r4)]) ++ List.replicate (7 - (lg_sl ([.ref (u r0), .ref (u r1), .int x2, .int x3, .ref (u r4)])).length) Slot.unset).toArray = ls at hl ⊢
  have hl : lv_has ls 7 [(0, .ref (u r0)), (1, .ref (u r1)), (2, .int x2), (3, .int x3), (4, .ref (u r4))] := hl
  refine ow_named (fun QQ hQQ => ?_)
  generalize ([.ref (u r0), .ref (u r1), .int x2, .int x3, .ref (u r4)] : List Value).toArray = args at hts hT hQQ ⊢
  have key : ∀ k : Nat, (∀ (x2 : Int32) (x3 : Int32) (x5 : Int32) (x6 : Int32) (r0 : Nat) (r1 : Nat) (r4 : Nat) (z : ow_MS) (H : Heap) (locs : List Loc) (ls : Array Slot), cw_X6 r0 → cw_X3 r1 → cw_X3 r4 → uw_M D vwCl (cX vl) q (tw_A (cX vl) u) s.heap u z H locs → lv_has ls 7 [(0, .ref (u r0)), (1, .ref (u r1)), (2, .int x2), (3, .int x3), (4, .ref (u r4))] → c_X6_collect vl K k 0 x2 x3 x5 x6 r0 r1 r4 z = some z1 → W p l e ({ frames := 6, cells := 0, slots := 0, locals := 155 } : Room) s m args below meth c H locs 0 0 QQ (F0 m 0 ls [])) ∧ (∀ (x2 : Int32) (x3 : Int32) (x5 : Int32) (x6 : Int32) (r0 : Nat) (r1 : Nat) (r4 : Nat) (z : ow_MS) (H : Heap) (locs : List Loc) (ls : Array Slot), cw_X6 r0 → cw_X3 r1 → cw_X3 r4 → uw_M D vwCl (cX vl) q (tw_A (cX vl) u) s.heap u z H locs → lv_has ls 7 [(0, .ref (u r0)), (1, .ref (u r1)), (2, .int x2), (3, .int x3), (4, .ref (u r4))] → c_X6_collect vl K k 1 x2 x3 x5 x6 r0 r1 r4 z = some z1 → W p l e ({ frames := 6, cells := 0, slots := 0, locals := 155 } : Room) s m args below meth c H locs 0 0 QQ (F0 m 32 ls [])) ∧ (∀ (x2 : Int32) (x3 : Int32) (x5 : Int32) (x6 : Int32) (r0 : Nat) (r1 : Nat) (r4 : Nat) (z : ow_MS) (H : Heap) (locs : List Loc) (ls : Array Slot), cw_X6 r0 → cw_X3 r1 → cw_X3 r4 → uw_M D vwCl (cX vl) q (tw_A (cX vl) u) s.heap u z H locs → lv_has ls 7 [(0, .ref (u r0)), (1, .ref (u r1)), (2, .int x2), (3, .int x3), (4, .ref (u r4)), (5, .int x5), (6, .int x6)] → c_X6_collect vl K k 2 x2 x3 x5 x6 r0 r1 r4 z = some z1 → W p l e ({ frames := 6, cells := 0, slots := 0, locals := 155 } : Room) s m args below meth c H locs 0 0 QQ (F0 m 42 ls [])) ∧ (∀ (x2 : Int32) (x3 : Int32) (x5 : Int32) (x6 : Int32) (r0 : Nat) (r1 : Nat) (r4 : Nat) (z : ow_MS) (H : Heap) (locs : List Loc) (ls : Array Slot), cw_X6 r0 → cw_X3 r1 → cw_X3 r4 → uw_M D vwCl (cX vl) q (tw_A (cX vl) u) s.heap u z H locs → lv_has ls 7 [(0, .ref (u r0)), (1, .ref (u r1)), (2, .int x2), (3, .int x3), (4, .ref (u r4)), (5, .int x5), (6, .int x6)] → c_X6_collect vl K k 3 x2 x3 x5 x6 r0 r1 r4 z = some z1 → W p l e ({ frames := 6, cells := 0, slots := 0, locals := 155 } : Room) s m args below meth c H locs 0 0 QQ (F0 m 83 ls [])) := by
    intro k
    induction k with
    | zero => exact ⟨fun _ _ _ _ _ _ _ _ _ _ _ _ _ _ _ _ hq => cw_no hq, fun _ _ _ _ _ _ _ _ _ _ _ _ _ _ _ _ hq => cw_no hq, fun _ _ _ _ _ _ _ _ _ _ _ _ _ _ _ _ hq => cw_no hq, fun _ _ _ _ _ _ _ _ _ _ _ _ _ _ _ _ hq => cw_no hq⟩
    | succ k ih =>
      obtain ⟨ih_0, ih_1, ih_2, ih_3⟩ := ih
      refine ⟨?_, ?_, ?_, ?_⟩
      · intro x2 x3 x5 x6 r0 r1 r4 z H locs ls hr0 hr1 hr4 hM hl hq
        have hq : cm_X6_collect_0 vl K (c_X6_collect vl K k) x2 x3 x5 x6 r0 r1 r4 z = some z1 := hq
        unfold cm_X6_collect_0 at hq
        refine lv_aload_n hx hb dcX6_collect_0 rfl (lv_at hl 0 rfl) ?_
        refine vgX6_29 hx hb hT hown hK hM hr0 dcX6_collect_1 ?_
        refine lv_aload_n hx hb dcX6_collect_4 rfl (lv_at hl 1 rfl) ?_
        refine lv_iload_n hx hb dcX6_collect_5 rfl (lv_at hl 2 rfl) ?_
        obtain ⟨z1, hcq, hq⟩ := tw_cl0 hq
        refine uw_calv hU hM (va_runV (As := [.ref (u r1), .int x2]) (rest := []) ⟨hx, hb, hml, hown, hts⟩ (kc_X7_load l D q vl u hU.1 K (r0 + 4000) r1 x2 (cs_X6_3 hr0) hr1 z z1 hcq) (cwV 2 hts (tw_gV wC_good xq_467 xq_468 xq_469 xq_54 xq_470) rfl rfl rfl cdd_X7_load ⟨(Nat.le_of_ble_eq_true rfl), (Nat.le_of_ble_eq_true rfl)⟩) (cw_preV hK hM (co_X7 (cs_X6_3 hr0)) rfl) rfl rfl hl.1 rfl (lv_room (Nat.le_of_ble_eq_true rfl)) dcX6_collect_6 ⟨(Nat.le_of_ble_eq_true rfl), (Nat.le_of_ble_eq_true rfl)⟩) (fun H locs hM => ?_)
        refine lv_iload_n hx hb dcX6_collect_9 rfl (lv_at hl 3 rfl) ?_
        refine lv_iconst (v := 3) hx hb dcX6_collect_10 (by decide) ?_
        refine lv_icmp_ne (tgt := 32) hx hb dcX6_collect_11 (by decide) (fun hc => ?_) (fun hc => ?_)
        · have hq := tw_if hq hc
          exact ih_1 x2 x3 0 0 r0 r1 r4 z1 H locs ls hr0 hr1 hr4 hM (lv_sub hl [0, 1, 2, 3, 4] rfl) hq
        · have hq := tw_it hq hc
          refine lv_aload_n hx hb dcX6_collect_14 rfl (lv_at hl 0 rfl) ?_
          refine vgX6_29 hx hb hT hown hK hM hr0 dcX6_collect_15 ?_
          obtain ⟨z2, hcq, hq⟩ := tw_cl0 hq
          refine uw_calv hU hM (va_runV (As := []) (rest := []) ⟨hx, hb, hml, hown, hts⟩ (kc_X7_markParts l D q vl u hU.1 K (r0 + 4000) (cs_X6_3 hr0) z1 z2 hcq) (cwV 0 hts (tw_gV wC_good xq_477 xq_52 xq_53 xq_54 xq_55) rfl rfl rfl cdd_X7_markParts ⟨(Nat.le_of_ble_eq_true rfl), (Nat.le_of_ble_eq_true rfl)⟩) (cw_preV hK hM (co_X7 (cs_X6_3 hr0)) rfl) rfl rfl hl.1 rfl (lv_room (Nat.le_of_ble_eq_true rfl)) dcX6_collect_18 ⟨(Nat.le_of_ble_eq_true rfl), (Nat.le_of_ble_eq_true rfl)⟩) (fun H locs hM => ?_)
          refine lv_aload_n hx hb dcX6_collect_21 rfl (lv_at hl 0 rfl) ?_
          refine vgX6_39 hx hb hT hown hK hM hr0 dcX6_collect_22 ?_
          refine lv_aload_n hx hb dcX6_collect_25 rfl (lv_at hl 0 rfl) ?_
          refine vgX6_29 hx hb hT hown hK hM hr0 dcX6_collect_26 ?_
          obtain ⟨z3, hcq, hq⟩ := tw_cl0 hq
          refine uw_calv hU hM (va_runV (As := [.ref (u (r0 + 4000))]) (rest := []) ⟨hx, hb, hml, hown, hts⟩ (kc_X4_mark l D q vl u hU.1 K (r0 + 6000) (r0 + 4000) (cs_X6_5 hr0) (cs_X6_3 hr0) z2 z3 hcq) (cwV 1 hts (tw_gV wC_good xq_478 xq_355 xq_356 xq_350 xq_351) rfl rfl rfl cdd_X4_mark ⟨(Nat.le_of_ble_eq_true rfl), (Nat.le_of_ble_eq_true rfl)⟩) (cw_preV hK hM (co_X4 (cs_X6_5 hr0)) rfl) rfl rfl hl.1 rfl (lv_room (Nat.le_of_ble_eq_true rfl)) dcX6_collect_29 ⟨(Nat.le_of_ble_eq_true rfl), (Nat.le_of_ble_eq_true rfl)⟩) (fun H locs hM => ?_)
          exact ih_1 x2 x3 0 0 r0 r1 r4 z3 H locs ls hr0 hr1 hr4 hM (lv_sub hl [0, 1, 2, 3, 4] rfl) hq
      · intro x2 x3 x5 x6 r0 r1 r4 z H locs ls hr0 hr1 hr4 hM hl hq
        have hq : cm_X6_collect_1 vl K (c_X6_collect vl K k) x2 x3 x5 x6 r0 r1 r4 z = some z1 := hq
        unfold cm_X6_collect_1 at hq
        refine lv_aload_n hx hb dcX6_collect_32 rfl (lv_at hl 0 rfl) ?_
        refine lv_iload_n hx hb dcX6_collect_33 rfl (lv_at hl 3 rfl) ?_
        obtain ⟨v5, z4, hcq, hq⟩ := tw_cl1 hq
        refine uw_cali hU hM (va_runV (As := [.int x3]) (rest := []) ⟨hx, hb, hml, hown, hts⟩ (kc_X6_countNumbers l D q vl u hU.1 K r0 x3 hr0 z z4 v5 hcq) (cwV 1 hts (tw_gV wC_good xq_479 xq_480 xq_481 xq_146 xq_482) rfl rfl rfl cdd_X6_countNumbers ⟨(Nat.le_of_ble_eq_true rfl), (Nat.le_of_ble_eq_true rfl)⟩) (cw_preV hK hM (co_X6 hr0) rfl) rfl rfl hl.1 rfl (lv_room (Nat.le_of_ble_eq_true rfl)) dcX6_collect_34 ⟨(Nat.le_of_ble_eq_true rfl), (Nat.le_of_ble_eq_true rfl)⟩) (fun H locs hM => ?_)
        refine lv_istore (lv' := [(5, .int v5), (0, .ref (u r0)), (1, .ref (u r1)), (2, .int x2), (3, .int x3), (4, .ref (u r4))]) hx hb dcX6_collect_37 hl (by decide) rfl (fun ls hl => ?_)
        refine lv_iconst (v := 0) hx hb dcX6_collect_39 (by decide) ?_
        refine lv_istore (lv' := [(6, .int 0), (5, .int v5), (0, .ref (u r0)), (1, .ref (u r1)), (2, .int x2), (3, .int x3), (4, .ref (u r4))]) hx hb dcX6_collect_40 hl (by decide) rfl (fun ls hl => ?_)
        exact ih_2 x2 x3 v5 0 r0 r1 r4 z4 H locs ls hr0 hr1 hr4 hM (lv_sub hl [2, 3, 4, 5, 6, 1, 0] rfl) hq
      · intro x2 x3 x5 x6 r0 r1 r4 z H locs ls hr0 hr1 hr4 hM hl hq
        have hq : cm_X6_collect_2 vl K (c_X6_collect vl K k) x2 x3 x5 x6 r0 r1 r4 z = some z1 := hq
        unfold cm_X6_collect_2 at hq
        refine lv_iload hx hb dcX6_collect_42 (lv_at hl 6 rfl) ?_
        refine lv_iload hx hb dcX6_collect_44 (lv_at hl 5 rfl) ?_
        refine lv_icmp_ge (tgt := 89) hx hb dcX6_collect_46 (by decide) (fun hc => ?_) (fun hc => ?_)
        · have hq := tw_it hq hc
          exact cw_vret hx hb hr hlocks hM hq hQQ dcX6_collect_89
        · have hq := tw_if hq hc
          refine lv_aload_n hx hb dcX6_collect_49 rfl (lv_at hl 0 rfl) ?_
          refine lv_iload_n hx hb dcX6_collect_50 rfl (lv_at hl 3 rfl) ?_
          refine lv_iload hx hb dcX6_collect_51 (lv_at hl 6 rfl) ?_
          obtain ⟨v7, z6, hcq, hq⟩ := tw_cl1 hq
          refine uw_cali hU hM (va_runV (As := [.int x3, .int x6]) (rest := []) ⟨hx, hb, hml, hown, hts⟩ (kc_X6_make l D q vl u hU.1 K r0 x3 x6 hr0 z z6 v7 hcq) (cwV 2 hts (tw_gV wC_good xq_484 xq_485 xq_486 xq_146 xq_487) rfl rfl rfl cdd_X6_make ⟨(Nat.le_of_ble_eq_true rfl), (Nat.le_of_ble_eq_true rfl)⟩) (cw_preV hK hM (co_X6 hr0) rfl) rfl rfl hl.1 rfl (lv_room (Nat.le_of_ble_eq_true rfl)) dcX6_collect_53 ⟨(Nat.le_of_ble_eq_true rfl), (Nat.le_of_ble_eq_true rfl)⟩) (fun H locs hM => ?_)
          refine lv_if_eq (tgt := 83) hx hb dcX6_collect_56 (by decide) (fun hc => ?_) (fun hc => ?_)
          · have hq := tw_it hq hc
            exact ih_3 x2 x3 x5 x6 r0 r1 r4 z6 H locs ls hr0 hr1 hr4 hM (lv_sub hl [0, 1, 2, 3, 4, 5, 6] rfl) hq
          · have hq := tw_if hq hc
            refine lv_aload_n hx hb dcX6_collect_59 rfl (lv_at hl 0 rfl) ?_
            refine vgX6_49 hx hb hT hown hK hM hr0 dcX6_collect_60 ?_
            refine lv_aload_n hx hb dcX6_collect_63 rfl (lv_at hl 0 rfl) ?_
            refine vgX6_33 hx hb hT hown hK hM hr0 dcX6_collect_64 ?_
            obtain ⟨z8, hcq, hq⟩ := tw_cl0 hq
            refine uw_calv hU hM (va_runV (As := [.ref (u (r0 + 5000))]) (rest := []) ⟨hx, hb, hml, hown, hts⟩ (kc_X2_encode l D q vl u hU.1 K (r0 + 8000) (r0 + 5000) (cs_X6_7 hr0) (cs_X6_4 hr0) z6 z8 hcq) (cwV 1 hts (tw_gV wC_good xq_553 xq_554 xq_555 xq_283 xq_334) rfl rfl rfl cdd_X2_encode ⟨(Nat.le_of_ble_eq_true rfl), (Nat.le_of_ble_eq_true rfl)⟩) (cw_preV hK hM (co_X2 (cs_X6_7 hr0)) rfl) rfl rfl hl.1 rfl (lv_room (Nat.le_of_ble_eq_true rfl)) dcX6_collect_67 ⟨(Nat.le_of_ble_eq_true rfl), (Nat.le_of_ble_eq_true rfl)⟩) (fun H locs hM => ?_)
            refine lv_aload hx hb dcX6_collect_70 (lv_at hl 4 rfl) ?_
            refine lv_aload_n hx hb dcX6_collect_72 rfl (lv_at hl 0 rfl) ?_
            refine vgX6_49 hx hb hT hown hK hM hr0 dcX6_collect_73 ?_
            refine vgX6_75 hx hb hT hown hK hM (cs_X6_7 hr0) dcX6_collect_76 ?_
            refine lv_iconst (v := 0) hx hb dcX6_collect_79 (by decide) ?_
            obtain ⟨z9, hcq, hq⟩ := tw_cl0 hq
            refine uw_calv hU hM (va_runV (As := [.ref (u ((r0 + 8000) + 1000)), .int 0]) (rest := []) ⟨hx, hb, hml, hown, hts⟩ (kc_X3_addNew l D q vl u hU.1 K r4 ((r0 + 8000) + 1000) 0 hr4 (cs_X2_0 (cs_X6_7 hr0)) z8 z9 hcq) (cwV 2 hts (tw_gV wC_good xq_556 xq_557 xq_558 xq_313 xq_337) rfl rfl rfl cdd_X3_addNew ⟨(Nat.le_of_ble_eq_true rfl), (Nat.le_of_ble_eq_true rfl)⟩) (cw_preV hK hM (co_X3 hr4) rfl) rfl rfl hl.1 rfl (lv_room (Nat.le_of_ble_eq_true rfl)) dcX6_collect_80 ⟨(Nat.le_of_ble_eq_true rfl), (Nat.le_of_ble_eq_true rfl)⟩) (fun H locs hM => ?_)
            exact ih_3 x2 x3 x5 x6 r0 r1 r4 z9 H locs ls hr0 hr1 hr4 hM (lv_sub hl [0, 1, 2, 3, 4, 5, 6] rfl) hq
      · intro x2 x3 x5 x6 r0 r1 r4 z H locs ls hr0 hr1 hr4 hM hl hq
        have hq : cm_X6_collect_3 vl K (c_X6_collect vl K k) x2 x3 x5 x6 r0 r1 r4 z = some z1 := hq
        unfold cm_X6_collect_3 at hq
        refine lv_iinc (v := (x6 + 1)) (lv' := [(6, .int (x6 + 1)), (0, .ref (u r0)), (1, .ref (u r1)), (2, .int x2), (3, .int x3), (4, .ref (u r4)), (5, .int x5)]) hx hb dcX6_collect_83 hl (k := 6) rfl rfl (by decide) rfl (fun ls hl => ?_)
        refine lv_goto (tgt := 42) hx hb dcX6_collect_86 (by decide) ?_
        exact ih_2 x2 x3 x5 (x6 + 1) r0 r1 r4 z H locs ls hr0 hr1 hr4 hM (lv_sub hl [1, 2, 3, 4, 5, 6, 0] rfl) hq
  exact (key K).1 x2 x3 0 0 r0 r1 r4 z s.heap [] ls hr0 hr1 hr4 hM (lv_sub hl [0, 1, 2, 3, 4] rfl) hq
theorem dcX6_reach_0 : decode cX6_reach 0 = .ok (.aload_n 0, 1) := dw_at cX6_reach_k0 (p := 0) rfl (by decide +kernel)
theorem dcX6_reach_1 : decode cX6_reach 1 = .ok (.getfield 14, 3) := dw_at cX6_reach_k0 (p := 1) rfl (by decide +kernel)
theorem dcX6_reach_4 : decode cX6_reach 4 = .ok (.iconst 0, 1) := dw_at cX6_reach_k0 (p := 4) rfl (by decide +kernel)
theorem dcX6_reach_5 : decode cX6_reach 5 = .ok (.putfield 169, 3) := dw_at cX6_reach_k0 (p := 5) rfl (by decide +kernel)
theorem dcX6_reach_8 : decode cX6_reach 8 = .ok (.aload_n 0, 1) := dw_at cX6_reach_k0 (p := 8) rfl (by decide +kernel)
theorem dcX6_reach_9 : decode cX6_reach 9 = .ok (.getfield 14, 3) := dw_at cX6_reach_k0 (p := 9) rfl (by decide +kernel)
theorem dcX6_reach_12 : decode cX6_reach 12 = .ok (.aload_n 1, 1) := dw_at cX6_reach_k0 (p := 12) rfl (by decide +kernel)
theorem dcX6_reach_13 : decode cX6_reach 13 = .ok (.iload_n 2, 1) := dw_at cX6_reach_k0 (p := 13) rfl (by decide +kernel)
theorem dcX6_reach_14 : decode cX6_reach 14 = .ok (.invokevirtual 78, 3) := dw_at cX6_reach_k0 (p := 14) rfl (by decide +kernel)
theorem dcX6_reach_17 : decode cX6_reach 17 = .ok (.iconst 0, 1) := dw_at cX6_reach_k0 (p := 17) rfl (by decide +kernel)
theorem dcX6_reach_18 : decode cX6_reach 18 = .ok (.istore_n 3, 1) := dw_at cX6_reach_k0 (p := 18) rfl (by decide +kernel)
theorem dcX6_reach_19 : decode cX6_reach 19 = .ok (.iload_n 3, 1) := dw_at cX6_reach_k0 (p := 19) rfl (by decide +kernel)
theorem dcX6_reach_20 : decode cX6_reach 20 = .ok (.aload_n 0, 1) := dw_at cX6_reach_k0 (p := 20) rfl (by decide +kernel)
theorem dcX6_reach_21 : decode cX6_reach 21 = .ok (.getfield 14, 3) := dw_at cX6_reach_k0 (p := 21) rfl (by decide +kernel)
theorem dcX6_reach_24 : decode cX6_reach 24 = .ok (.getfield 169, 3) := dw_at cX6_reach_k1 (p := 0) rfl (by decide +kernel)
theorem dcX6_reach_27 : decode cX6_reach 27 = .ok (.if_icmp .ge 64, 3) := dw_at cX6_reach_k1 (p := 3) rfl (by decide +kernel)
theorem dcX6_reach_30 : decode cX6_reach 30 = .ok (.aload_n 0, 1) := dw_at cX6_reach_k1 (p := 6) rfl (by decide +kernel)
theorem dcX6_reach_31 : decode cX6_reach 31 = .ok (.getfield 14, 3) := dw_at cX6_reach_k1 (p := 7) rfl (by decide +kernel)
theorem dcX6_reach_34 : decode cX6_reach 34 = .ok (.getfield 169, 3) := dw_at cX6_reach_k1 (p := 10) rfl (by decide +kernel)
theorem dcX6_reach_37 : decode cX6_reach 37 = .ok (.sipush 300, 3) := dw_at cX6_reach_k1 (p := 13) rfl (by decide +kernel)
theorem dcX6_reach_40 : decode cX6_reach 40 = .ok (.if_icmp .gt 51, 3) := dw_at cX6_reach_k1 (p := 16) rfl (by decide +kernel)
theorem dcX6_reach_43 : decode cX6_reach 43 = .ok (.aload_n 0, 1) := dw_at cX6_reach_k1 (p := 19) rfl (by decide +kernel)
theorem dcX6_reach_44 : decode cX6_reach 44 = .ok (.aload_n 0, 1) := dw_at cX6_reach_k1 (p := 20) rfl (by decide +kernel)
theorem dcX6_reach_45 : decode cX6_reach 45 = .ok (.getfield 14, 3) := dw_at cX6_reach_k1 (p := 21) rfl (by decide +kernel)
theorem dcX6_reach_48 : decode cX6_reach 48 = .ok (.iload_n 3, 1) := dw_at cX6_reach_k2 (p := 0) rfl (by decide +kernel)
theorem dcX6_reach_49 : decode cX6_reach 49 = .ok (.iconst 0, 1) := dw_at cX6_reach_k2 (p := 1) rfl (by decide +kernel)
theorem dcX6_reach_50 : decode cX6_reach 50 = .ok (.aload_n 0, 1) := dw_at cX6_reach_k2 (p := 2) rfl (by decide +kernel)
theorem dcX6_reach_51 : decode cX6_reach 51 = .ok (.getfield 14, 3) := dw_at cX6_reach_k2 (p := 3) rfl (by decide +kernel)
theorem dcX6_reach_54 : decode cX6_reach 54 = .ok (.invokevirtual 172, 3) := dw_at cX6_reach_k2 (p := 6) rfl (by decide +kernel)
theorem dcX6_reach_57 : decode cX6_reach 57 = .ok (.aload_n 0, 1) := dw_at cX6_reach_k2 (p := 9) rfl (by decide +kernel)
theorem dcX6_reach_58 : decode cX6_reach 58 = .ok (.aload_n 0, 1) := dw_at cX6_reach_k2 (p := 10) rfl (by decide +kernel)
theorem dcX6_reach_59 : decode cX6_reach 59 = .ok (.getfield 14, 3) := dw_at cX6_reach_k2 (p := 11) rfl (by decide +kernel)
theorem dcX6_reach_62 : decode cX6_reach 62 = .ok (.iload_n 3, 1) := dw_at cX6_reach_k2 (p := 14) rfl (by decide +kernel)
theorem dcX6_reach_63 : decode cX6_reach 63 = .ok (.iconst 2, 1) := dw_at cX6_reach_k2 (p := 15) rfl (by decide +kernel)
theorem dcX6_reach_64 : decode cX6_reach 64 = .ok (.aload_n 0, 1) := dw_at cX6_reach_k2 (p := 16) rfl (by decide +kernel)
theorem dcX6_reach_65 : decode cX6_reach 65 = .ok (.getfield 14, 3) := dw_at cX6_reach_k2 (p := 17) rfl (by decide +kernel)
theorem dcX6_reach_68 : decode cX6_reach 68 = .ok (.invokevirtual 172, 3) := dw_at cX6_reach_k2 (p := 20) rfl (by decide +kernel)
theorem dcX6_reach_71 : decode cX6_reach 71 = .ok (.aload_n 0, 1) := dw_at cX6_reach_k2 (p := 23) rfl (by decide +kernel)
theorem dcX6_reach_72 : decode cX6_reach 72 = .ok (.aload_n 0, 1) := dw_at cX6_reach_k3 (p := 0) rfl (by decide +kernel)
theorem dcX6_reach_73 : decode cX6_reach 73 = .ok (.getfield 14, 3) := dw_at cX6_reach_k3 (p := 1) rfl (by decide +kernel)
theorem dcX6_reach_76 : decode cX6_reach 76 = .ok (.iload_n 3, 1) := dw_at cX6_reach_k3 (p := 4) rfl (by decide +kernel)
theorem dcX6_reach_77 : decode cX6_reach 77 = .ok (.iconst 4, 1) := dw_at cX6_reach_k3 (p := 5) rfl (by decide +kernel)
theorem dcX6_reach_78 : decode cX6_reach 78 = .ok (.aload_n 0, 1) := dw_at cX6_reach_k3 (p := 6) rfl (by decide +kernel)
theorem dcX6_reach_79 : decode cX6_reach 79 = .ok (.getfield 14, 3) := dw_at cX6_reach_k3 (p := 7) rfl (by decide +kernel)
theorem dcX6_reach_82 : decode cX6_reach 82 = .ok (.invokevirtual 172, 3) := dw_at cX6_reach_k3 (p := 10) rfl (by decide +kernel)
theorem dcX6_reach_85 : decode cX6_reach 85 = .ok (.iinc 3 1, 3) := dw_at cX6_reach_k3 (p := 13) rfl (by decide +kernel)
theorem dcX6_reach_88 : decode cX6_reach 88 = .ok (.goto (-69), 3) := dw_at cX6_reach_k3 (p := 16) rfl (by decide +kernel)
theorem dcX6_reach_91 : decode cX6_reach 91 = .ok (.return_, 1) := dw_at cX6_reach_k3 (p := 19) rfl (by decide +kernel)
def cm_X6_reach_0 (vl : Nat → Nat) (K : Nat) (go : Nat → Int32 → Int32 → Nat → Nat → ow_MS → Option ow_MS) (x2 : Int32) (x3 : Int32) (r0 : Nat) (r1 : Nat) (z : ow_MS) : Option ow_MS :=
 wrF z ((r0 + 1000) + 5) 0 fun z1 => cs0 (ce_X3_addNew vl K (r0 + 1000) r1 x2 z1) fun z2 => go 1 x2 0 r0 r1 z2
def cm_X6_reach_1 (vl : Nat → Nat) (K : Nat) (go : Nat → Int32 → Int32 → Nat → Nat → ow_MS → Option ow_MS) (x2 : Int32) (x3 : Int32) (r0 : Nat) (r1 : Nat) (z : ow_MS) : Option ow_MS :=
 rdF z ((r0 + 1000) + 5) fun v3 => (if v3 ≤ x3 then some z
 else rdF z ((r0 + 1000) + 5) fun v4 => (if 300 < v4 then some z
 else cs0 (ce_X6_collect vl K r0 (r0 + 1000) x3 0 (r0 + 1000) z) fun z5 => cs0 (ce_X6_collect vl K r0 (r0 + 1000) x3 2 (r0 + 1000) z5) fun z6 => cs0 (ce_X6_collect vl K r0 (r0 + 1000) x3 4 (r0 + 1000) z6) fun z7 => go 1 x2 (x3 + 1) r0 r1 z7))
def cb_X6_reach (vl : Nat → Nat) (K : Nat) (go : Nat → Int32 → Int32 → Nat → Nat → ow_MS → Option ow_MS) (L : Nat) (x2 : Int32) (x3 : Int32) (r0 : Nat) (r1 : Nat) (z : ow_MS) : Option ow_MS := match L with
  | 0 => cm_X6_reach_0 vl K go x2 x3 r0 r1 z
  | 1 => cm_X6_reach_1 vl K go x2 x3 r0 r1 z
  | _ => none
def c_X6_reach (vl : Nat → Nat) (K : Nat) : Nat → Nat → Int32 → Int32 → Nat → Nat → ow_MS → Option ow_MS
  | 0 => fun _ _ _ _ _ _ => none
  | k + 1 => cb_X6_reach vl K (c_X6_reach vl K k)
def ce_X6_reach (vl : Nat → Nat) (K : Nat) (r0 : Nat) (r1 : Nat) (x2 : Int32) (z : ow_MS) : Option ow_MS := c_X6_reach vl K K 0 x2 0 r0 r1 z
abbrev wc_X6_reach : List Cond := .code yX6_reach cX6_reach 4 none :: wC
theorem cdd_X6_reach : yX6_reach.cls = RX6 ∧ yX6_reach.cls ≠ "java/lang/invoke/MethodHandle" ∧ yX6_reach.cls ≠ "java/lang/invoke/VarHandle" ∧ (parseMethodDescriptor yX6_reach.desc).map (fun d => d.parameters.length) = some 2 := by decide +kernel
set_option maxHeartbeats 4000000 in
set_option maxRecDepth 100000 in
theorem kc_X6_reach (l : Launch) (D : va_G) (q : Nat → ClassId) (vl u : Nat → Nat) (hU0 : tw_inj (cX vl) u) (K : Nat) (r0 : Nat) (r1 : Nat) (x2 : Int32) (hr0 : cw_X6 r0) (hr1 : cw_X3 r1) (z z1 : ow_MS) (hq : ce_X6_reach vl K r0 r1 x2 z = some z1) : Met l yX6_reach wc_X6_reach ({ frames := 7, cells := 0, slots := 0, locals := 181 } : Room) (va_Pc [.ref (u r0), .ref (u r1), .int x2] (cw_pre D q vl u z)) (va_Qv (fun (_ : Unit) => True) (fun _ t => va_P D vwCl (uw (cX vl) q u z1) t.heap) (tw_A (cX vl) u)) 0 0 (tw_A (cX vl) u) := by
  refine Met.ofW (cc := cX6_reach) (maxL := 4) (ret := none) (by decide) rfl ?_
  intro p e s m args below meth c s₁ B hml hv
  obtain ⟨rfl, hP, hK⟩ := hv
  have hx := B.exec
  have hb := B.bytes
  have hr := B.returns
  have hts := atoms_spec (ws := wc_X6_reach) B.pre
  have hT : ∀ w ∈ wC, w.before ([.ref (u r0), .ref (u r1), .int x2] : List Value).toArray s = true := fun w h => hts w (List.mem_cons_of_mem _ h)
  have hown : s.vm.findClass RX6 = some m.cls := findClass_of_methodNamed B.named
  have hlocks := B.notSynchronized
  have hU : uw_inj (cX vl) u (tw_A (cX vl) u) := ⟨hU0, fun h hh => ⟨h, hh, rfl⟩⟩
  have hM : uw_M D vwCl (cX vl) q (tw_A (cX vl) u) s.heap u z s.heap [] := ⟨hP, va_S.rf⟩
  have hl := lv_entry ([.ref (u r0), .ref (u r1), .int x2]) (n := 4) (Nat.le_of_ble_eq_true rfl)
  rw [lg_entry_eq]
  generalize (lg_sl ([.ref (u r0), .ref (u r1), .int x2]) ++ List.replicate (4 - (lg_sl ([.ref (u r0), .ref (u r1), .int x2])).length) Slot.unset).toArray = ls at hl ⊢
  have hl : lv_has ls 4 [(0, .ref (u r0)), (1, .ref (u r1)), (2, .int x2)] := hl
  refine ow_named (fun QQ hQQ => ?_)
  generalize ([.ref (u r0), .ref (u r1), .int x2] : List Value).toArray = args at hts hT hQQ ⊢
  have key : ∀ k : Nat, (∀ (x2 : Int32) (x3 : Int32) (r0 : Nat) (r1 : Nat) (z : ow_MS) (H : Heap) (locs : List Loc) (ls : Array Slot), cw_X6 r0 → cw_X3 r1 → uw_M D vwCl (cX vl) q (tw_A (cX vl) u) s.heap u z H locs → lv_has ls 4 [(0, .ref (u r0)), (1, .ref (u r1)), (2, .int x2)] → c_X6_reach vl K k 0 x2 x3 r0 r1 z = some z1 → W p l e ({ frames := 7, cells := 0, slots := 0, locals := 181 } : Room) s m args below meth c H locs 0 0 QQ (F0 m 0 ls [])) ∧ (∀ (x2 : Int32) (x3 : Int32) (r0 : Nat) (r1 : Nat) (z : ow_MS) (H : Heap) (locs : List Loc) (ls : Array Slot), cw_X6 r0 → cw_X3 r1 → uw_M D vwCl (cX vl) q (tw_A (cX vl) u) s.heap u z H locs → lv_has ls 4 [(0, .ref (u r0)), (1, .ref (u r1)), (2, .int x2), (3, .int x3)] → c_X6_reach vl K k 1 x2 x3 r0 r1 z = some z1 → W p l e ({ frames := 7, cells := 0, slots := 0, locals := 181 } : Room) s m args below meth c H locs 0 0 QQ (F0 m 19 ls [])) := by
    intro k
    induction k with
    | zero => exact ⟨fun _ _ _ _ _ _ _ _ _ _ _ _ hq => cw_no hq, fun _ _ _ _ _ _ _ _ _ _ _ _ hq => cw_no hq⟩
    | succ k ih =>
      obtain ⟨ih_0, ih_1⟩ := ih
      refine ⟨?_, ?_⟩
      · intro x2 x3 r0 r1 z H locs ls hr0 hr1 hM hl hq
        have hq : cm_X6_reach_0 vl K (c_X6_reach vl K k) x2 x3 r0 r1 z = some z1 := hq
        unfold cm_X6_reach_0 at hq
        refine lv_aload_n hx hb dcX6_reach_0 rfl (lv_at hl 0 rfl) ?_
        refine vgX6_14 hx hb hT hown hK hM hr0 dcX6_reach_1 ?_
        refine lv_iconst (v := 0) hx hb dcX6_reach_4 (by decide) ?_
        refine vpX6_169 hx hb hT hown hK hM hU (cs_X6_0 hr0) hq dcX6_reach_5 (fun z1 H locs hM hq => ?_)
        refine lv_aload_n hx hb dcX6_reach_8 rfl (lv_at hl 0 rfl) ?_
        refine vgX6_14 hx hb hT hown hK hM hr0 dcX6_reach_9 ?_
        refine lv_aload_n hx hb dcX6_reach_12 rfl (lv_at hl 1 rfl) ?_
        refine lv_iload_n hx hb dcX6_reach_13 rfl (lv_at hl 2 rfl) ?_
        obtain ⟨z2, hcq, hq⟩ := tw_cl0 hq
        refine uw_calv hU hM (va_runV (As := [.ref (u r1), .int x2]) (rest := []) ⟨hx, hb, hml, hown, hts⟩ (kc_X3_addNew l D q vl u hU.1 K (r0 + 1000) r1 x2 (cs_X6_0 hr0) hr1 z1 z2 hcq) (cwV 2 hts (tw_gV wC_good xq_556 xq_557 xq_558 xq_313 xq_337) rfl rfl rfl cdd_X3_addNew ⟨(Nat.le_of_ble_eq_true rfl), (Nat.le_of_ble_eq_true rfl)⟩) (cw_preV hK hM (co_X3 (cs_X6_0 hr0)) rfl) rfl rfl hl.1 rfl (lv_room (Nat.le_of_ble_eq_true rfl)) dcX6_reach_14 ⟨(Nat.le_of_ble_eq_true rfl), (Nat.le_of_ble_eq_true rfl)⟩) (fun H locs hM => ?_)
        refine lv_iconst (v := 0) hx hb dcX6_reach_17 (by decide) ?_
        refine lv_istore_n (lv' := [(3, .int 0), (0, .ref (u r0)), (1, .ref (u r1)), (2, .int x2)]) hx hb dcX6_reach_18 rfl hl (by decide) rfl (fun ls hl => ?_)
        exact ih_1 x2 0 r0 r1 z2 H locs ls hr0 hr1 hM (lv_sub hl [1, 2, 3, 0] rfl) hq
      · intro x2 x3 r0 r1 z H locs ls hr0 hr1 hM hl hq
        have hq : cm_X6_reach_1 vl K (c_X6_reach vl K k) x2 x3 r0 r1 z = some z1 := hq
        unfold cm_X6_reach_1 at hq
        refine lv_iload_n hx hb dcX6_reach_19 rfl (lv_at hl 3 rfl) ?_
        refine lv_aload_n hx hb dcX6_reach_20 rfl (lv_at hl 0 rfl) ?_
        refine vgX6_14 hx hb hT hown hK hM hr0 dcX6_reach_21 ?_
        refine vgX6_169 hx hb hT hown hK hM (cs_X6_0 hr0) hq dcX6_reach_24 (fun v3 hq => ?_)
        refine lv_icmp_ge (tgt := 91) hx hb dcX6_reach_27 (by decide) (fun hc => ?_) (fun hc => ?_)
        · have hq := tw_it hq hc
          exact cw_vret hx hb hr hlocks hM hq hQQ dcX6_reach_91
        · have hq := tw_if hq hc
          refine lv_aload_n hx hb dcX6_reach_30 rfl (lv_at hl 0 rfl) ?_
          refine vgX6_14 hx hb hT hown hK hM hr0 dcX6_reach_31 ?_
          refine vgX6_169 hx hb hT hown hK hM (cs_X6_0 hr0) hq dcX6_reach_34 (fun v4 hq => ?_)
          refine lv_sipush (v := 300) hx hb dcX6_reach_37 (by decide) ?_
          refine lv_icmp_gt (tgt := 91) hx hb dcX6_reach_40 (by decide) (fun hc => ?_) (fun hc => ?_)
          · have hq := tw_it hq hc
            exact cw_vret hx hb hr hlocks hM hq hQQ dcX6_reach_91
          · have hq := tw_if hq hc
            refine lv_aload_n hx hb dcX6_reach_43 rfl (lv_at hl 0 rfl) ?_
            refine lv_aload_n hx hb dcX6_reach_44 rfl (lv_at hl 0 rfl) ?_
            refine vgX6_14 hx hb hT hown hK hM hr0 dcX6_reach_45 ?_
            refine lv_iload_n hx hb dcX6_reach_48 rfl (lv_at hl 3 rfl) ?_
            refine lv_iconst (v := 0) hx hb dcX6_reach_49 (by decide) ?_
            refine lv_aload_n hx hb dcX6_reach_50 rfl (lv_at hl 0 rfl) ?_
            refine vgX6_14 hx hb hT hown hK hM hr0 dcX6_reach_51 ?_
            obtain ⟨z5, hcq, hq⟩ := tw_cl0 hq
            refine uw_calv hU hM (va_runV (As := [.ref (u (r0 + 1000)), .int x3, .int 0, .ref (u (r0 + 1000))]) (rest := []) ⟨hx, hb, hml, hown, hts⟩ (kc_X6_collect l D q vl u hU.1 K r0 (r0 + 1000) x3 0 (r0 + 1000) hr0 (cs_X6_0 hr0) (cs_X6_0 hr0) z z5 hcq) (cwV 4 hts (tw_gV wC_good xq_562 xq_563 xq_564 xq_146 xq_559) rfl rfl rfl cdd_X6_collect ⟨(Nat.le_of_ble_eq_true rfl), (Nat.le_of_ble_eq_true rfl)⟩) (cw_preV hK hM (co_X6 hr0) rfl) rfl rfl hl.1 rfl (lv_room (Nat.le_of_ble_eq_true rfl)) dcX6_reach_54 ⟨(Nat.le_of_ble_eq_true rfl), (Nat.le_of_ble_eq_true rfl)⟩) (fun H locs hM => ?_)
            refine lv_aload_n hx hb dcX6_reach_57 rfl (lv_at hl 0 rfl) ?_
            refine lv_aload_n hx hb dcX6_reach_58 rfl (lv_at hl 0 rfl) ?_
            refine vgX6_14 hx hb hT hown hK hM hr0 dcX6_reach_59 ?_
            refine lv_iload_n hx hb dcX6_reach_62 rfl (lv_at hl 3 rfl) ?_
            refine lv_iconst (v := 2) hx hb dcX6_reach_63 (by decide) ?_
            refine lv_aload_n hx hb dcX6_reach_64 rfl (lv_at hl 0 rfl) ?_
            refine vgX6_14 hx hb hT hown hK hM hr0 dcX6_reach_65 ?_
            obtain ⟨z6, hcq, hq⟩ := tw_cl0 hq
            refine uw_calv hU hM (va_runV (As := [.ref (u (r0 + 1000)), .int x3, .int 2, .ref (u (r0 + 1000))]) (rest := []) ⟨hx, hb, hml, hown, hts⟩ (kc_X6_collect l D q vl u hU.1 K r0 (r0 + 1000) x3 2 (r0 + 1000) hr0 (cs_X6_0 hr0) (cs_X6_0 hr0) z5 z6 hcq) (cwV 4 hts (tw_gV wC_good xq_562 xq_563 xq_564 xq_146 xq_559) rfl rfl rfl cdd_X6_collect ⟨(Nat.le_of_ble_eq_true rfl), (Nat.le_of_ble_eq_true rfl)⟩) (cw_preV hK hM (co_X6 hr0) rfl) rfl rfl hl.1 rfl (lv_room (Nat.le_of_ble_eq_true rfl)) dcX6_reach_68 ⟨(Nat.le_of_ble_eq_true rfl), (Nat.le_of_ble_eq_true rfl)⟩) (fun H locs hM => ?_)
            refine lv_aload_n hx hb dcX6_reach_71 rfl (lv_at hl 0 rfl) ?_
            refine lv_aload_n hx hb dcX6_reach_72 rfl (lv_at hl 0 rfl) ?_
            refine vgX6_14 hx hb hT hown hK hM hr0 dcX6_reach_73 ?_
            refine lv_iload_n hx hb dcX6_reach_76 rfl (lv_at hl 3 rfl) ?_
            refine lv_iconst (v := 4) hx hb dcX6_reach_77 (by decide) ?_
            refine lv_aload_n hx hb dcX6_reach_78 rfl (lv_at hl 0 rfl) ?_
            refine vgX6_14 hx hb hT hown hK hM hr0 dcX6_reach_79 ?_
            obtain ⟨z7, hcq, hq⟩ := tw_cl0 hq
            refine uw_calv hU hM (va_runV (As := [.ref (u (r0 + 1000)), .int x3, .int 4, .ref (u (r0 + 1000))]) (rest := []) ⟨hx, hb, hml, hown, hts⟩ (kc_X6_collect l D q vl u hU.1 K r0 (r0 + 1000) x3 4 (r0 + 1000) hr0 (cs_X6_0 hr0) (cs_X6_0 hr0) z6 z7 hcq) (cwV 4 hts (tw_gV wC_good xq_562 xq_563 xq_564 xq_146 xq_559) rfl rfl rfl cdd_X6_collect ⟨(Nat.le_of_ble_eq_true rfl), (Nat.le_of_ble_eq_true rfl)⟩) (cw_preV hK hM (co_X6 hr0) rfl) rfl rfl hl.1 rfl (lv_room (Nat.le_of_ble_eq_true rfl)) dcX6_reach_82 ⟨(Nat.le_of_ble_eq_true rfl), (Nat.le_of_ble_eq_true rfl)⟩) (fun H locs hM => ?_)
            refine lv_iinc (v := (x3 + 1)) (lv' := [(3, .int (x3 + 1)), (0, .ref (u r0)), (1, .ref (u r1)), (2, .int x2)]) hx hb dcX6_reach_85 hl (k := 3) rfl rfl (by decide) rfl (fun ls hl => ?_)
            refine lv_goto (tgt := 19) hx hb dcX6_reach_88 (by decide) ?_
            exact ih_1 x2 (x3 + 1) r0 r1 z7 H locs ls hr0 hr1 hM (lv_sub hl [1, 2, 3, 0] rfl) hq
  exact (key K).1 x2 0 r0 r1 z s.heap [] ls hr0 hr1 hM (lv_sub hl [0, 1, 2] rfl) hq
