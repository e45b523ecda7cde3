theorem dmX13_divisor_0 : decode cX13_divisor 0 = .ok (.lconst 0, 1) := dw_at cX13_divisor_k0 (p := 0) rfl (by decide +kernel)
theorem dmX13_divisor_1 : decode cX13_divisor 1 = .ok (.lstore 4, 2) := dw_at cX13_divisor_k0 (p := 1) rfl (by decide +kernel)
theorem dmX13_divisor_3 : decode cX13_divisor 3 = .ok (.iconst 0, 1) := dw_at cX13_divisor_k0 (p := 3) rfl (by decide +kernel)
theorem dmX13_divisor_4 : decode cX13_divisor 4 = .ok (.istore 6, 2) := dw_at cX13_divisor_k0 (p := 4) rfl (by decide +kernel)
theorem dmX13_divisor_6 : decode cX13_divisor 6 = .ok (.iload 6, 2) := dw_at cX13_divisor_k0 (p := 6) rfl (by decide +kernel)
theorem dmX13_divisor_8 : decode cX13_divisor 8 = .ok (.iconst 1, 1) := dw_at cX13_divisor_k0 (p := 8) rfl (by decide +kernel)
theorem dmX13_divisor_9 : decode cX13_divisor 9 = .ok (.aload_n 0, 1) := dw_at cX13_divisor_k0 (p := 9) rfl (by decide +kernel)
theorem dmX13_divisor_10 : decode cX13_divisor 10 = .ok (.getfield 651, 3) := dw_at cX13_divisor_k0 (p := 10) rfl (by decide +kernel)
theorem dmX13_divisor_13 : decode cX13_divisor 13 = .ok (.ishl, 1) := dw_at cX13_divisor_k0 (p := 13) rfl (by decide +kernel)
theorem dmX13_divisor_14 : decode cX13_divisor 14 = .ok (.if_icmp .ge 80, 3) := dw_at cX13_divisor_k0 (p := 14) rfl (by decide +kernel)
theorem dmX13_divisor_17 : decode cX13_divisor 17 = .ok (.lload 4, 2) := dw_at cX13_divisor_k0 (p := 17) rfl (by decide +kernel)
theorem dmX13_divisor_19 : decode cX13_divisor 19 = .ok (.lload_n 2, 1) := dw_at cX13_divisor_k0 (p := 19) rfl (by decide +kernel)
theorem dmX13_divisor_20 : decode cX13_divisor 20 = .ok (.lcmp, 1) := dw_at cX13_divisor_k0 (p := 20) rfl (by decide +kernel)
theorem dmX13_divisor_21 : decode cX13_divisor 21 = .ok (.ifCond .eq 73, 3) := dw_at cX13_divisor_k0 (p := 21) rfl (by decide +kernel)
theorem dmX13_divisor_24 : decode cX13_divisor 24 = .ok (.iconst 0, 1) := dw_at cX13_divisor_k1 (p := 0) rfl (by decide +kernel)
theorem dmX13_divisor_25 : decode cX13_divisor 25 = .ok (.istore 7, 2) := dw_at cX13_divisor_k1 (p := 1) rfl (by decide +kernel)
theorem dmX13_divisor_27 : decode cX13_divisor 27 = .ok (.iload 7, 2) := dw_at cX13_divisor_k1 (p := 3) rfl (by decide +kernel)
theorem dmX13_divisor_29 : decode cX13_divisor 29 = .ok (.iconst 1, 1) := dw_at cX13_divisor_k1 (p := 5) rfl (by decide +kernel)
theorem dmX13_divisor_30 : decode cX13_divisor 30 = .ok (.aload_n 0, 1) := dw_at cX13_divisor_k1 (p := 6) rfl (by decide +kernel)
theorem dmX13_divisor_31 : decode cX13_divisor 31 = .ok (.getfield 654, 3) := dw_at cX13_divisor_k1 (p := 7) rfl (by decide +kernel)
theorem dmX13_divisor_34 : decode cX13_divisor 34 = .ok (.ishl, 1) := dw_at cX13_divisor_k1 (p := 10) rfl (by decide +kernel)
theorem dmX13_divisor_35 : decode cX13_divisor 35 = .ok (.if_icmp .ge 53, 3) := dw_at cX13_divisor_k1 (p := 11) rfl (by decide +kernel)
theorem dmX13_divisor_38 : decode cX13_divisor 38 = .ok (.lload 4, 2) := dw_at cX13_divisor_k1 (p := 14) rfl (by decide +kernel)
theorem dmX13_divisor_40 : decode cX13_divisor 40 = .ok (.lload_n 2, 1) := dw_at cX13_divisor_k1 (p := 16) rfl (by decide +kernel)
theorem dmX13_divisor_41 : decode cX13_divisor 41 = .ok (.lcmp, 1) := dw_at cX13_divisor_k1 (p := 17) rfl (by decide +kernel)
theorem dmX13_divisor_42 : decode cX13_divisor 42 = .ok (.ifCond .eq 46, 3) := dw_at cX13_divisor_k1 (p := 18) rfl (by decide +kernel)
theorem dmX13_divisor_45 : decode cX13_divisor 45 = .ok (.iload 6, 2) := dw_at cX13_divisor_k1 (p := 21) rfl (by decide +kernel)
theorem dmX13_divisor_47 : decode cX13_divisor 47 = .ok (.invokestatic 590, 3) := dw_at cX13_divisor_k1 (p := 23) rfl (by decide +kernel)
theorem dmX13_divisor_50 : decode cX13_divisor 50 = .ok (.iload_n 1, 1) := dw_at cX13_divisor_k2 (p := 0) rfl (by decide +kernel)
theorem dmX13_divisor_51 : decode cX13_divisor 51 = .ok (.if_icmp .ne 37, 3) := dw_at cX13_divisor_k2 (p := 1) rfl (by decide +kernel)
theorem dmX13_divisor_54 : decode cX13_divisor 54 = .ok (.iload 7, 2) := dw_at cX13_divisor_k2 (p := 4) rfl (by decide +kernel)
theorem dmX13_divisor_56 : decode cX13_divisor 56 = .ok (.invokestatic 590, 3) := dw_at cX13_divisor_k2 (p := 6) rfl (by decide +kernel)
theorem dmX13_divisor_59 : decode cX13_divisor 59 = .ok (.iload_n 1, 1) := dw_at cX13_divisor_k2 (p := 9) rfl (by decide +kernel)
theorem dmX13_divisor_60 : decode cX13_divisor 60 = .ok (.if_icmp .ne 22, 3) := dw_at cX13_divisor_k2 (p := 10) rfl (by decide +kernel)
theorem dmX13_divisor_63 : decode cX13_divisor 63 = .ok (.lload 4, 2) := dw_at cX13_divisor_k2 (p := 13) rfl (by decide +kernel)
theorem dmX13_divisor_65 : decode cX13_divisor 65 = .ok (.aload_n 0, 1) := dw_at cX13_divisor_k2 (p := 15) rfl (by decide +kernel)
theorem dmX13_divisor_66 : decode cX13_divisor 66 = .ok (.iload 6, 2) := dw_at cX13_divisor_k2 (p := 16) rfl (by decide +kernel)
theorem dmX13_divisor_68 : decode cX13_divisor 68 = .ok (.iload 7, 2) := dw_at cX13_divisor_k2 (p := 18) rfl (by decide +kernel)
theorem dmX13_divisor_70 : decode cX13_divisor 70 = .ok (.iload_n 1, 1) := dw_at cX13_divisor_k2 (p := 20) rfl (by decide +kernel)
theorem dmX13_divisor_71 : decode cX13_divisor 71 = .ok (.invokevirtual 657, 3) := dw_at cX13_divisor_k2 (p := 21) rfl (by decide +kernel)
theorem dmX13_divisor_74 : decode cX13_divisor 74 = .ok (.invokestatic 647, 3) := dw_at cX13_divisor_k3 (p := 0) rfl (by decide +kernel)
theorem dmX13_divisor_77 : decode cX13_divisor 77 = .ok (.invokestatic 661, 3) := dw_at cX13_divisor_k3 (p := 3) rfl (by decide +kernel)
theorem dmX13_divisor_80 : decode cX13_divisor 80 = .ok (.lstore 4, 2) := dw_at cX13_divisor_k3 (p := 6) rfl (by decide +kernel)
theorem dmX13_divisor_82 : decode cX13_divisor 82 = .ok (.iinc 7 1, 3) := dw_at cX13_divisor_k3 (p := 8) rfl (by decide +kernel)
theorem dmX13_divisor_85 : decode cX13_divisor 85 = .ok (.goto (-58), 3) := dw_at cX13_divisor_k3 (p := 11) rfl (by decide +kernel)
theorem dmX13_divisor_88 : decode cX13_divisor 88 = .ok (.iinc 6 1, 3) := dw_at cX13_divisor_k3 (p := 14) rfl (by decide +kernel)
theorem dmX13_divisor_91 : decode cX13_divisor 91 = .ok (.goto (-85), 3) := dw_at cX13_divisor_k3 (p := 17) rfl (by decide +kernel)
theorem dmX13_divisor_94 : decode cX13_divisor 94 = .ok (.lload 4, 2) := dw_at cX13_divisor_k3 (p := 20) rfl (by decide +kernel)
theorem dmX13_divisor_96 : decode cX13_divisor 96 = .ok (.lreturn, 1) := dw_at cX13_divisor_k3 (p := 22) rfl (by decide +kernel)
def qm_X13_divisor_0 (K : Nat) (go : Nat → Int32 → Int32 → Int32 → Int64 → Int64 → ow_MS → Option (Int64 × ow_MS)) (x1 : Int32) (x6 : Int32) (x7 : Int32) (w2 : Int64) (w4 : Int64) (z : ow_MS) : Option (Int64 × ow_MS) :=
 go 1 x1 0 0 w2 0 z
def qm_X13_divisor_1 (K : Nat) (go : Nat → Int32 → Int32 → Int32 → Int64 → Int64 → ow_MS → Option (Int64 × ow_MS)) (x1 : Int32) (x6 : Int32) (x7 : Int32) (w2 : Int64) (w4 : Int64) (z : ow_MS) : Option (Int64 × ow_MS) :=
 rdF z 70 fun v1 => (if ((1 : Int32) <<< ((v1 : Int32) &&& 31)) ≤ x6 then some (w4, z)
 else (if (lg_cmp w4 w2) = 0 then some (w4, z)
 else go 2 x1 x6 0 w2 w4 z))
def qm_X13_divisor_2 (K : Nat) (go : Nat → Int32 → Int32 → Int32 → Int64 → Int64 → ow_MS → Option (Int64 × ow_MS)) (x1 : Int32) (x6 : Int32) (x7 : Int32) (w2 : Int64) (w4 : Int64) (z : ow_MS) : Option (Int64 × ow_MS) :=
 rdF z 71 fun v2 => (if ((1 : Int32) <<< ((v2 : Int32) &&& 31)) ≤ x7 then go 4 x1 x6 x7 w2 w4 z
 else (if (lg_cmp w4 w2) = 0 then go 4 x1 x6 x7 w2 w4 z
 else (if (ow_bc x6) = x1 then (if (ow_bc x7) = x1 then cs1 (qe_X13_minor K x6 x7 x1 z) fun v6 z5 => cs1 (qe_X13_gcd K w4 (if 0 < v6 then v6 else -v6) z5) fun v8 z7 => go 3 x1 x6 x7 w2 v8 z7
 else go 3 x1 x6 x7 w2 w4 z)
 else go 4 x1 x6 x7 w2 w4 z)))
def qm_X13_divisor_3 (K : Nat) (go : Nat → Int32 → Int32 → Int32 → Int64 → Int64 → ow_MS → Option (Int64 × ow_MS)) (x1 : Int32) (x6 : Int32) (x7 : Int32) (w2 : Int64) (w4 : Int64) (z : ow_MS) : Option (Int64 × ow_MS) :=
 go 2 x1 x6 (x7 + 1) w2 w4 z
def qm_X13_divisor_4 (K : Nat) (go : Nat → Int32 → Int32 → Int32 → Int64 → Int64 → ow_MS → Option (Int64 × ow_MS)) (x1 : Int32) (x6 : Int32) (x7 : Int32) (w2 : Int64) (w4 : Int64) (z : ow_MS) : Option (Int64 × ow_MS) :=
 go 1 x1 (x6 + 1) 0 w2 w4 z
def qb_X13_divisor (K : Nat) (go : Nat → Int32 → Int32 → Int32 → Int64 → Int64 → ow_MS → Option (Int64 × ow_MS)) (L : Nat) (x1 : Int32) (x6 : Int32) (x7 : Int32) (w2 : Int64) (w4 : Int64) (z : ow_MS) : Option (Int64 × ow_MS) := match L with
  | 0 => qm_X13_divisor_0 K go x1 x6 x7 w2 w4 z
  | 1 => qm_X13_divisor_1 K go x1 x6 x7 w2 w4 z
  | 2 => qm_X13_divisor_2 K go x1 x6 x7 w2 w4 z
  | 3 => qm_X13_divisor_3 K go x1 x6 x7 w2 w4 z
  | 4 => qm_X13_divisor_4 K go x1 x6 x7 w2 w4 z
  | _ => none
def q_X13_divisor (K : Nat) : Nat → Nat → Int32 → Int32 → Int32 → Int64 → Int64 → ow_MS → Option (Int64 × ow_MS)
  | 0 => fun _ _ _ _ _ _ _ => none
  | k + 1 => qb_X13_divisor K (q_X13_divisor K k)
def qe_X13_divisor (K : Nat) (x1 : Int32) (w2 : Int64) (z : ow_MS) : Option (Int64 × ow_MS) := q_X13_divisor K K 0 x1 0 0 w2 0 z
abbrev wm_X13_divisor : List Cond := .code yX13_divisor cX13_divisor 8 (some .long) :: wM
theorem cd_X13_divisor : yX13_divisor.cls = RX13 ∧ yX13_divisor.cls ≠ "java/lang/invoke/MethodHandle" ∧ yX13_divisor.cls ≠ "java/lang/invoke/VarHandle" ∧ (parseMethodDescriptor yX13_divisor.desc).map (fun d => d.parameters.length) = some 2 := by decide +kernel
set_option maxHeartbeats 4000000 in
set_option maxRecDepth 100000 in
theorem km_X13_divisor (l : Launch) (D : va_G) (q : ow_Q5) (u : Nat → Nat) (hU : tw_inj mX u) (K : Nat) (x1 : Int32) (w2 : Int64)  (z z1 : ow_MS) (r : Int64) (hq : qe_X13_divisor K x1 w2 z = some (r, z1)) : Met l yX13_divisor wm_X13_divisor ({ frames := 1, cells := 0, slots := 0, locals := 31 } : Room) (va_Pc [.ref (u 0), .int x1, .long w2] (mw_pre D q u z)) (va_Ql (fun x (_ : Unit) => x = r) (fun _ t => va_P D vwCl (tw mX q u z1) t.heap) (tw_A mX u)) 0 0 (tw_A mX u) := by
  refine Met.ofW (cc := cX13_divisor) (maxL := 8) (ret := (some .long)) (by decide) rfl ?_
  intro p e s m args below meth c s₁ B hml hv
  obtain ⟨rfl, hP, hK, hN⟩ := hv
  have hx := B.exec
  have hb := B.bytes
  have hr := B.returns
  have hts := atoms_spec (ws := wm_X13_divisor) B.pre
  have hT : ∀ w ∈ wM, w.before ([.ref (u 0), .int x1, .long w2] : List Value).toArray s = true := fun w h => hts w (List.mem_cons_of_mem _ h)
  have hown : s.vm.findClass RX13 = some m.cls := findClass_of_methodNamed B.named
  have hlocks := B.notSynchronized
  have hM : tw_M D vwCl mX q s.heap u z s.heap [] := ⟨hP, va_S.rf⟩
  have hl := lv_entry ([.ref (u 0), .int x1, .long w2]) (n := 8) (Nat.le_of_ble_eq_true rfl)
  rw [lg_entry_eq]
  generalize (lg_sl ([.ref (u 0), .int x1, .long w2]) ++ List.replicate (8 - (lg_sl ([.ref (u 0), .int x1, .long w2])).length) Slot.unset).toArray = ls at hl ⊢
  have hl : lv_has ls 8 [(0, .ref (u 0)), (1, .int x1), (2, .long w2)] := hl
  refine ow_named (fun QQ hQQ => ?_)
  generalize ([.ref (u 0), .int x1, .long w2] : List Value).toArray = args at hts hT hQQ ⊢
  have key : ∀ k : Nat, (∀ (x1 : Int32) (x6 : Int32) (x7 : Int32) (w2 : Int64) (w4 : Int64) (z : ow_MS) (H : Heap) (locs : List Loc) (ls : Array Slot), tw_M D vwCl mX q s.heap u z H locs → lv_has ls 8 [(0, .ref (u 0)), (1, .int x1), (2, .long w2)] → q_X13_divisor K k 0 x1 x6 x7 w2 w4 z = some (r, z1) → W p l e ({ frames := 1, cells := 0, slots := 0, locals := 31 } : Room) s m args below meth c H locs 0 0 QQ (F0 m 0 ls [])) ∧ (∀ (x1 : Int32) (x6 : Int32) (x7 : Int32) (w2 : Int64) (w4 : Int64) (z : ow_MS) (H : Heap) (locs : List Loc) (ls : Array Slot), tw_M D vwCl mX q s.heap u z H locs → lv_has ls 8 [(0, .ref (u 0)), (1, .int x1), (2, .long w2), (4, .long w4), (6, .int x6)] → q_X13_divisor K k 1 x1 x6 x7 w2 w4 z = some (r, z1) → W p l e ({ frames := 1, cells := 0, slots := 0, locals := 31 } : Room) s m args below meth c H locs 0 0 QQ (F0 m 6 ls [])) ∧ (∀ (x1 : Int32) (x6 : Int32) (x7 : Int32) (w2 : Int64) (w4 : Int64) (z : ow_MS) (H : Heap) (locs : List Loc) (ls : Array Slot), tw_M D vwCl mX q s.heap u z H locs → lv_has ls 8 [(0, .ref (u 0)), (1, .int x1), (2, .long w2), (4, .long w4), (6, .int x6), (7, .int x7)] → q_X13_divisor K k 2 x1 x6 x7 w2 w4 z = some (r, z1) → W p l e ({ frames := 1, cells := 0, slots := 0, locals := 31 } : Room) s m args below meth c H locs 0 0 QQ (F0 m 27 ls [])) ∧ (∀ (x1 : Int32) (x6 : Int32) (x7 : Int32) (w2 : Int64) (w4 : Int64) (z : ow_MS) (H : Heap) (locs : List Loc) (ls : Array Slot), tw_M D vwCl mX q s.heap u z H locs → lv_has ls 8 [(0, .ref (u 0)), (1, .int x1), (2, .long w2), (4, .long w4), (6, .int x6), (7, .int x7)] → q_X13_divisor K k 3 x1 x6 x7 w2 w4 z = some (r, z1) → W p l e ({ frames := 1, cells := 0, slots := 0, locals := 31 } : Room) s m args below meth c H locs 0 0 QQ (F0 m 82 ls [])) ∧ (∀ (x1 : Int32) (x6 : Int32) (x7 : Int32) (w2 : Int64) (w4 : Int64) (z : ow_MS) (H : Heap) (locs : List Loc) (ls : Array Slot), tw_M D vwCl mX q s.heap u z H locs → lv_has ls 8 [(0, .ref (u 0)), (1, .int x1), (2, .long w2), (4, .long w4), (6, .int x6), (7, .int x7)] → q_X13_divisor K k 4 x1 x6 x7 w2 w4 z = some (r, z1) → W p l e ({ frames := 1, cells := 0, slots := 0, locals := 31 } : Room) s m args below meth c H locs 0 0 QQ (F0 m 88 ls [])) := by
    intro k
    induction k with
    | zero => exact ⟨fun _ _ _ _ _ _ _ _ _  _ _ hq => tw_no hq, fun _ _ _ _ _ _ _ _ _  _ _ hq => tw_no hq, fun _ _ _ _ _ _ _ _ _  _ _ hq => tw_no hq, fun _ _ _ _ _ _ _ _ _  _ _ hq => tw_no hq, fun _ _ _ _ _ _ _ _ _  _ _ hq => tw_no hq⟩
    | succ k ih =>
      obtain ⟨ih_0, ih_1, ih_2, ih_3, ih_4⟩ := ih
      refine ⟨?_, ?_, ?_, ?_, ?_⟩
      · intro x1 x6 x7 w2 w4 z H locs ls  hM hl hq
        have hq : qm_X13_divisor_0 K (q_X13_divisor K k) x1 x6 x7 w2 w4 z = some (r, z1) := hq
        unfold qm_X13_divisor_0 at hq
        refine lv_lconst (v := 0) hx hb dmX13_divisor_0 rfl ?_
        refine lv_lstore (lv' := [(4, .long 0), (0, .ref (u 0)), (1, .int x1), (2, .long w2)]) hx hb dmX13_divisor_1 hl (by decide) rfl (fun ls hl => ?_)
        refine lv_iconst (v := 0) hx hb dmX13_divisor_3 (by decide) ?_
        refine lv_istore (lv' := [(6, .int 0), (4, .long 0), (0, .ref (u 0)), (1, .int x1), (2, .long w2)]) hx hb dmX13_divisor_4 hl (by decide) rfl (fun ls hl => ?_)
        exact ih_1 x1 0 0 w2 0 z H locs ls hM (lv_sub hl [2, 3, 4, 1, 0] rfl) hq
      · intro x1 x6 x7 w2 w4 z H locs ls  hM hl hq
        have hq : qm_X13_divisor_1 K (q_X13_divisor K k) x1 x6 x7 w2 w4 z = some (r, z1) := hq
        unfold qm_X13_divisor_1 at hq
        refine lv_iload hx hb dmX13_divisor_6 (lv_at hl 4 rfl) ?_
        refine lv_iconst (v := 1) hx hb dmX13_divisor_8 (by decide) ?_
        refine lv_aload_n hx hb dmX13_divisor_9 rfl (lv_at hl 0 rfl) ?_
        refine mg13_651 hx hb hT hown hK hM hq dmX13_divisor_10 (fun v1 hq => ?_)
        refine lv_ishl hx hb dmX13_divisor_13 ?_
        refine lv_icmp_ge (tgt := 94) hx hb dmX13_divisor_14 (by decide) (fun hc => ?_) (fun hc => ?_)
        · have hq := tw_it hq hc
          refine lv_lload hx hb dmX13_divisor_94 (lv_at hl 3 rfl) ?_
          exact mw_lret hx hb hr hlocks hM hq hQQ dmX13_divisor_96
        · have hq := tw_if hq hc
          refine lv_lload hx hb dmX13_divisor_17 (lv_at hl 3 rfl) ?_
          refine lv_lload_n hx hb dmX13_divisor_19 rfl (lv_at hl 2 rfl) ?_
          refine W.lcmp hx hb dmX13_divisor_20 ?_
          refine lv_if_eq (tgt := 94) hx hb dmX13_divisor_21 (by decide) (fun hc => ?_) (fun hc => ?_)
          · have hq := tw_it hq hc
            refine lv_lload hx hb dmX13_divisor_94 (lv_at hl 3 rfl) ?_
            exact mw_lret hx hb hr hlocks hM hq hQQ dmX13_divisor_96
          · have hq := tw_if hq hc
            refine lv_iconst (v := 0) hx hb dmX13_divisor_24 (by decide) ?_
            refine lv_istore (lv' := [(7, .int 0), (0, .ref (u 0)), (1, .int x1), (2, .long w2), (4, .long w4), (6, .int x6)]) hx hb dmX13_divisor_25 hl (by decide) rfl (fun ls hl => ?_)
            exact ih_2 x1 x6 0 w2 w4 z H locs ls hM (lv_sub hl [1, 2, 3, 4, 5, 0] rfl) hq
      · intro x1 x6 x7 w2 w4 z H locs ls  hM hl hq
        have hq : qm_X13_divisor_2 K (q_X13_divisor K k) x1 x6 x7 w2 w4 z = some (r, z1) := hq
        unfold qm_X13_divisor_2 at hq
        refine lv_iload hx hb dmX13_divisor_27 (lv_at hl 5 rfl) ?_
        refine lv_iconst (v := 1) hx hb dmX13_divisor_29 (by decide) ?_
        refine lv_aload_n hx hb dmX13_divisor_30 rfl (lv_at hl 0 rfl) ?_
        refine mg13_654 hx hb hT hown hK hM hq dmX13_divisor_31 (fun v2 hq => ?_)
        refine lv_ishl hx hb dmX13_divisor_34 ?_
        refine lv_icmp_ge (tgt := 88) hx hb dmX13_divisor_35 (by decide) (fun hc => ?_) (fun hc => ?_)
        · have hq := tw_it hq hc
          exact ih_4 x1 x6 x7 w2 w4 z H locs ls hM (lv_sub hl [0, 1, 2, 3, 4, 5] rfl) hq
        · have hq := tw_if hq hc
          refine lv_lload hx hb dmX13_divisor_38 (lv_at hl 3 rfl) ?_
          refine lv_lload_n hx hb dmX13_divisor_40 rfl (lv_at hl 2 rfl) ?_
          refine W.lcmp hx hb dmX13_divisor_41 ?_
          refine lv_if_eq (tgt := 88) hx hb dmX13_divisor_42 (by decide) (fun hc => ?_) (fun hc => ?_)
          · have hq := tw_it hq hc
            exact ih_4 x1 x6 x7 w2 w4 z H locs ls hM (lv_sub hl [0, 1, 2, 3, 4, 5] rfl) hq
          · have hq := tw_if hq hc
            refine lv_iload hx hb dmX13_divisor_45 (lv_at hl 4 rfl) ?_
            refine mw_pure hM (va_runS (As := [.int x6]) (rest := []) ⟨hx, hb, hml, hown, hts⟩ (k_J6_bitCount_0f7a4 l x6) (va_cwS 1 hts (mw_gbc wq_307) rfl rfl rfl (by decide +kernel) ⟨(Nat.le_of_ble_eq_true rfl), (Nat.le_of_ble_eq_true rfl)⟩) ⟨fun a U g mk q => q, fun U hU hW => ⟨rfl, trivial⟩⟩ rfl rfl hl.1 rfl (lv_room (Nat.le_of_ble_eq_true rfl)) dmX13_divisor_47 ⟨(Nat.le_of_ble_eq_true rfl), (Nat.le_of_ble_eq_true rfl)⟩) (fun H locs hM => ?_)
            refine lv_iload_n hx hb dmX13_divisor_50 rfl (lv_at hl 1 rfl) ?_
            refine lv_icmp_ne (tgt := 88) hx hb dmX13_divisor_51 (by decide) (fun hc => ?_) (fun hc => ?_)
            · have hq := tw_if hq hc
              exact ih_4 x1 x6 x7 w2 w4 z H locs ls hM (lv_sub hl [0, 1, 2, 3, 4, 5] rfl) hq
            · have hq := tw_it hq hc
              refine lv_iload hx hb dmX13_divisor_54 (lv_at hl 5 rfl) ?_
              refine mw_pure hM (va_runS (As := [.int x7]) (rest := []) ⟨hx, hb, hml, hown, hts⟩ (k_J6_bitCount_0f7a4 l x7) (va_cwS 1 hts (mw_gbc wq_307) rfl rfl rfl (by decide +kernel) ⟨(Nat.le_of_ble_eq_true rfl), (Nat.le_of_ble_eq_true rfl)⟩) ⟨fun a U g mk q => q, fun U hU hW => ⟨rfl, trivial⟩⟩ rfl rfl hl.1 rfl (lv_room (Nat.le_of_ble_eq_true rfl)) dmX13_divisor_56 ⟨(Nat.le_of_ble_eq_true rfl), (Nat.le_of_ble_eq_true rfl)⟩) (fun H locs hM => ?_)
              refine lv_iload_n hx hb dmX13_divisor_59 rfl (lv_at hl 1 rfl) ?_
              refine lv_icmp_ne (tgt := 82) hx hb dmX13_divisor_60 (by decide) (fun hc => ?_) (fun hc => ?_)
              · have hq := tw_if hq hc
                exact ih_3 x1 x6 x7 w2 w4 z H locs ls hM (lv_sub hl [0, 1, 2, 3, 4, 5] rfl) hq
              · have hq := tw_it hq hc
                refine lv_lload hx hb dmX13_divisor_63 (lv_at hl 3 rfl) ?_
                refine lv_aload_n hx hb dmX13_divisor_65 rfl (lv_at hl 0 rfl) ?_
                refine lv_iload hx hb dmX13_divisor_66 (lv_at hl 4 rfl) ?_
                refine lv_iload hx hb dmX13_divisor_68 (lv_at hl 5 rfl) ?_
                refine lv_iload_n hx hb dmX13_divisor_70 rfl (lv_at hl 1 rfl) ?_
                obtain ⟨v6, z5, hcq, hq⟩ := tw_cl1 hq
                refine tw_call hM (va_runV (As := [.int x6, .int x7, .int x1]) (rest := [.long w4]) ⟨hx, hb, hml, hown, hts⟩ (km_X13_minor l D q u hU K x6 x7 x1 z z5 v6 hcq) (cwV 3 hts (tw_gV wM_good wq_387 wq_388 wq_389 wq_61 wq_390) rfl rfl rfl cd_X13_minor ⟨(Nat.le_of_ble_eq_true rfl), (Nat.le_of_ble_eq_true rfl)⟩) (mw_preV hK hN hM mo_0 rfl) rfl rfl hl.1 rfl (lv_room (Nat.le_of_ble_eq_true rfl)) dmX13_divisor_71 ⟨(Nat.le_of_ble_eq_true rfl), (Nat.le_of_ble_eq_true rfl)⟩) (fun H locs hM => ?_)
                refine va_mabs_long hx hb (by rw [hml]; exact hl.1.symm) hown (hT _ wq_372) (hT _ wq_373) (hT _ wq_67) (hT _ wq_374) (Nat.le_of_ble_eq_true rfl) (Nat.le_of_ble_eq_true rfl) (Nat.le_of_ble_eq_true rfl) (Nat.le_of_ble_eq_true rfl) dmX13_divisor_74 ?_
                obtain ⟨v8, z7, hcq, hq⟩ := tw_cl1 hq
                refine tw_call hM (va_runS (As := [.long w4, .long (if 0 < v6 then v6 else -v6)]) (rest := []) ⟨hx, hb, hml, hown, hts⟩ (km_X13_gcd l D q u hU K w4 (if 0 < v6 then v6 else -v6) z5 z7 v8 hcq) (va_cwS 2 hts (tw_gS wM_good wq_392 wq_393 wq_61 wq_394) rfl rfl rfl cd_X13_gcd ⟨(Nat.le_of_ble_eq_true rfl), (Nat.le_of_ble_eq_true rfl)⟩) (mw_preS hK hN hM) rfl rfl hl.1 rfl (lv_room (Nat.le_of_ble_eq_true rfl)) dmX13_divisor_77 ⟨(Nat.le_of_ble_eq_true rfl), (Nat.le_of_ble_eq_true rfl)⟩) (fun H locs hM => ?_)
                refine lv_lstore (lv' := [(4, .long v8), (0, .ref (u 0)), (1, .int x1), (2, .long w2), (6, .int x6), (7, .int x7)]) hx hb dmX13_divisor_80 hl (by decide) rfl (fun ls hl => ?_)
                exact ih_3 x1 x6 x7 w2 v8 z7 H locs ls hM (lv_sub hl [1, 2, 3, 0, 4, 5] rfl) hq
      · intro x1 x6 x7 w2 w4 z H locs ls  hM hl hq
        have hq : qm_X13_divisor_3 K (q_X13_divisor K k) x1 x6 x7 w2 w4 z = some (r, z1) := hq
        unfold qm_X13_divisor_3 at hq
        refine lv_iinc (v := (x7 + 1)) (lv' := [(7, .int (x7 + 1)), (0, .ref (u 0)), (1, .int x1), (2, .long w2), (4, .long w4), (6, .int x6)]) hx hb dmX13_divisor_82 hl (k := 5) rfl rfl (by decide) rfl (fun ls hl => ?_)
        refine lv_goto (tgt := 27) hx hb dmX13_divisor_85 (by decide) ?_
        exact ih_2 x1 x6 (x7 + 1) w2 w4 z H locs ls hM (lv_sub hl [1, 2, 3, 4, 5, 0] rfl) hq
      · intro x1 x6 x7 w2 w4 z H locs ls  hM hl hq
        have hq : qm_X13_divisor_4 K (q_X13_divisor K k) x1 x6 x7 w2 w4 z = some (r, z1) := hq
        unfold qm_X13_divisor_4 at hq
        refine lv_iinc (v := (x6 + 1)) (lv' := [(6, .int (x6 + 1)), (0, .ref (u 0)), (1, .int x1), (2, .long w2), (4, .long w4), (7, .int x7)]) hx hb dmX13_divisor_88 hl (k := 4) rfl rfl (by decide) rfl (fun ls hl => ?_)
        refine lv_goto (tgt := 6) hx hb dmX13_divisor_91 (by decide) ?_
        exact ih_1 x1 (x6 + 1) 0 w2 w4 z H locs ls hM (lv_sub hl [1, 2, 3, 4, 0] rfl) hq
  exact (key K).1 x1 0 0 w2 0 z s.heap [] ls  hM (lv_sub hl [0, 1, 2] rfl) hq
theorem dmX13_leave_0 : decode cX13_leave 0 = .ok (.aload_n 0, 1) := dw_at cX13_leave_k0 (p := 0) rfl (by decide +kernel)
theorem dmX13_leave_1 : decode cX13_leave 1 = .ok (.iconst 0, 1) := dw_at cX13_leave_k0 (p := 1) rfl (by decide +kernel)
theorem dmX13_leave_2 : decode cX13_leave 2 = .ok (.putfield 651, 3) := dw_at cX13_leave_k0 (p := 2) rfl (by decide +kernel)
theorem dmX13_leave_5 : decode cX13_leave 5 = .ok (.iload_n 1, 1) := dw_at cX13_leave_k0 (p := 5) rfl (by decide +kernel)
theorem dmX13_leave_6 : decode cX13_leave 6 = .ok (.istore_n 3, 1) := dw_at cX13_leave_k0 (p := 6) rfl (by decide +kernel)
theorem dmX13_leave_7 : decode cX13_leave 7 = .ok (.iload_n 3, 1) := dw_at cX13_leave_k0 (p := 7) rfl (by decide +kernel)
theorem dmX13_leave_8 : decode cX13_leave 8 = .ok (.iload_n 2, 1) := dw_at cX13_leave_k0 (p := 8) rfl (by decide +kernel)
theorem dmX13_leave_9 : decode cX13_leave 9 = .ok (.if_icmp .ge 82, 3) := dw_at cX13_leave_k0 (p := 9) rfl (by decide +kernel)
theorem dmX13_leave_12 : decode cX13_leave 12 = .ok (.iconst 0, 1) := dw_at cX13_leave_k0 (p := 12) rfl (by decide +kernel)
theorem dmX13_leave_13 : decode cX13_leave 13 = .ok (.istore 4, 2) := dw_at cX13_leave_k0 (p := 13) rfl (by decide +kernel)
theorem dmX13_leave_15 : decode cX13_leave 15 = .ok (.iload_n 1, 1) := dw_at cX13_leave_k0 (p := 15) rfl (by decide +kernel)
theorem dmX13_leave_16 : decode cX13_leave 16 = .ok (.istore 5, 2) := dw_at cX13_leave_k0 (p := 16) rfl (by decide +kernel)
theorem dmX13_leave_18 : decode cX13_leave 18 = .ok (.iload 5, 2) := dw_at cX13_leave_k0 (p := 18) rfl (by decide +kernel)
theorem dmX13_leave_20 : decode cX13_leave 20 = .ok (.aload_n 0, 1) := dw_at cX13_leave_k0 (p := 20) rfl (by decide +kernel)
theorem dmX13_leave_21 : decode cX13_leave 21 = .ok (.getfield 626, 3) := dw_at cX13_leave_k0 (p := 21) rfl (by decide +kernel)
theorem dmX13_leave_24 : decode cX13_leave 24 = .ok (.if_icmp .ge 36, 3) := dw_at cX13_leave_k1 (p := 0) rfl (by decide +kernel)
theorem dmX13_leave_27 : decode cX13_leave 27 = .ok (.iload 4, 2) := dw_at cX13_leave_k1 (p := 3) rfl (by decide +kernel)
theorem dmX13_leave_29 : decode cX13_leave 29 = .ok (.aload_n 0, 1) := dw_at cX13_leave_k1 (p := 5) rfl (by decide +kernel)
theorem dmX13_leave_30 : decode cX13_leave 30 = .ok (.getfield 247, 3) := dw_at cX13_leave_k1 (p := 6) rfl (by decide +kernel)
theorem dmX13_leave_33 : decode cX13_leave 33 = .ok (.bipush 24, 2) := dw_at cX13_leave_k1 (p := 9) rfl (by decide +kernel)
theorem dmX13_leave_35 : decode cX13_leave 35 = .ok (.iload_n 3, 1) := dw_at cX13_leave_k1 (p := 11) rfl (by decide +kernel)
theorem dmX13_leave_36 : decode cX13_leave 36 = .ok (.imul, 1) := dw_at cX13_leave_k1 (p := 12) rfl (by decide +kernel)
theorem dmX13_leave_37 : decode cX13_leave 37 = .ok (.iload 5, 2) := dw_at cX13_leave_k1 (p := 13) rfl (by decide +kernel)
theorem dmX13_leave_39 : decode cX13_leave 39 = .ok (.iadd, 1) := dw_at cX13_leave_k1 (p := 15) rfl (by decide +kernel)
theorem dmX13_leave_40 : decode cX13_leave 40 = .ok (.laload, 1) := dw_at cX13_leave_k1 (p := 16) rfl (by decide +kernel)
theorem dmX13_leave_41 : decode cX13_leave 41 = .ok (.lconst 0, 1) := dw_at cX13_leave_k1 (p := 17) rfl (by decide +kernel)
theorem dmX13_leave_42 : decode cX13_leave 42 = .ok (.lcmp, 1) := dw_at cX13_leave_k1 (p := 18) rfl (by decide +kernel)
theorem dmX13_leave_43 : decode cX13_leave 43 = .ok (.ifCond .eq 7, 3) := dw_at cX13_leave_k1 (p := 19) rfl (by decide +kernel)
theorem dmX13_leave_46 : decode cX13_leave 46 = .ok (.iconst 1, 1) := dw_at cX13_leave_k1 (p := 22) rfl (by decide +kernel)
theorem dmX13_leave_47 : decode cX13_leave 47 = .ok (.goto 4, 3) := dw_at cX13_leave_k1 (p := 23) rfl (by decide +kernel)
theorem dmX13_leave_50 : decode cX13_leave 50 = .ok (.iconst 0, 1) := dw_at cX13_leave_k2 (p := 0) rfl (by decide +kernel)
theorem dmX13_leave_51 : decode cX13_leave 51 = .ok (.ior, 1) := dw_at cX13_leave_k2 (p := 1) rfl (by decide +kernel)
theorem dmX13_leave_52 : decode cX13_leave 52 = .ok (.istore 4, 2) := dw_at cX13_leave_k2 (p := 2) rfl (by decide +kernel)
theorem dmX13_leave_54 : decode cX13_leave 54 = .ok (.iinc 5 1, 3) := dw_at cX13_leave_k2 (p := 4) rfl (by decide +kernel)
theorem dmX13_leave_57 : decode cX13_leave 57 = .ok (.goto (-39), 3) := dw_at cX13_leave_k2 (p := 7) rfl (by decide +kernel)
theorem dmX13_leave_60 : decode cX13_leave 60 = .ok (.iload 4, 2) := dw_at cX13_leave_k2 (p := 10) rfl (by decide +kernel)
theorem dmX13_leave_62 : decode cX13_leave 62 = .ok (.ifCond .eq 23, 3) := dw_at cX13_leave_k2 (p := 12) rfl (by decide +kernel)
theorem dmX13_leave_65 : decode cX13_leave 65 = .ok (.aload_n 0, 1) := dw_at cX13_leave_k2 (p := 15) rfl (by decide +kernel)
theorem dmX13_leave_66 : decode cX13_leave 66 = .ok (.getfield 256, 3) := dw_at cX13_leave_k2 (p := 16) rfl (by decide +kernel)
theorem dmX13_leave_69 : decode cX13_leave 69 = .ok (.aload_n 0, 1) := dw_at cX13_leave_k2 (p := 19) rfl (by decide +kernel)
theorem dmX13_leave_70 : decode cX13_leave 70 = .ok (.getfield 651, 3) := dw_at cX13_leave_k2 (p := 20) rfl (by decide +kernel)
theorem dmX13_leave_73 : decode cX13_leave 73 = .ok (.iload_n 3, 1) := dw_at cX13_leave_k2 (p := 23) rfl (by decide +kernel)
theorem dmX13_leave_74 : decode cX13_leave 74 = .ok (.iastore, 1) := dw_at cX13_leave_k3 (p := 0) rfl (by decide +kernel)
theorem dmX13_leave_75 : decode cX13_leave 75 = .ok (.aload_n 0, 1) := dw_at cX13_leave_k3 (p := 1) rfl (by decide +kernel)
theorem dmX13_leave_76 : decode cX13_leave 76 = .ok (.dup, 1) := dw_at cX13_leave_k3 (p := 2) rfl (by decide +kernel)
theorem dmX13_leave_77 : decode cX13_leave 77 = .ok (.getfield 651, 3) := dw_at cX13_leave_k3 (p := 3) rfl (by decide +kernel)
theorem dmX13_leave_80 : decode cX13_leave 80 = .ok (.iconst 1, 1) := dw_at cX13_leave_k3 (p := 6) rfl (by decide +kernel)
theorem dmX13_leave_81 : decode cX13_leave 81 = .ok (.iadd, 1) := dw_at cX13_leave_k3 (p := 7) rfl (by decide +kernel)
theorem dmX13_leave_82 : decode cX13_leave 82 = .ok (.putfield 651, 3) := dw_at cX13_leave_k3 (p := 8) rfl (by decide +kernel)
theorem dmX13_leave_85 : decode cX13_leave 85 = .ok (.iinc 3 1, 3) := dw_at cX13_leave_k3 (p := 11) rfl (by decide +kernel)
theorem dmX13_leave_88 : decode cX13_leave 88 = .ok (.goto (-81), 3) := dw_at cX13_leave_k3 (p := 14) rfl (by decide +kernel)
theorem dmX13_leave_91 : decode cX13_leave 91 = .ok (.aload_n 0, 1) := dw_at cX13_leave_k3 (p := 17) rfl (by decide +kernel)
theorem dmX13_leave_92 : decode cX13_leave 92 = .ok (.iconst 0, 1) := dw_at cX13_leave_k3 (p := 18) rfl (by decide +kernel)
theorem dmX13_leave_93 : decode cX13_leave 93 = .ok (.putfield 654, 3) := dw_at cX13_leave_k3 (p := 19) rfl (by decide +kernel)
theorem dmX13_leave_96 : decode cX13_leave 96 = .ok (.iload_n 1, 1) := dw_at cX13_leave_k3 (p := 22) rfl (by decide +kernel)
theorem dmX13_leave_97 : decode cX13_leave 97 = .ok (.istore_n 3, 1) := dw_at cX13_leave_k3 (p := 23) rfl (by decide +kernel)
theorem dmX13_leave_98 : decode cX13_leave 98 = .ok (.iload_n 3, 1) := dw_at cX13_leave_k4 (p := 0) rfl (by decide +kernel)
theorem dmX13_leave_99 : decode cX13_leave 99 = .ok (.aload_n 0, 1) := dw_at cX13_leave_k4 (p := 1) rfl (by decide +kernel)
theorem dmX13_leave_100 : decode cX13_leave 100 = .ok (.getfield 626, 3) := dw_at cX13_leave_k4 (p := 2) rfl (by decide +kernel)
theorem dmX13_leave_103 : decode cX13_leave 103 = .ok (.if_icmp .ge 79, 3) := dw_at cX13_leave_k4 (p := 5) rfl (by decide +kernel)
theorem dmX13_leave_106 : decode cX13_leave 106 = .ok (.iconst 0, 1) := dw_at cX13_leave_k4 (p := 8) rfl (by decide +kernel)
theorem dmX13_leave_107 : decode cX13_leave 107 = .ok (.istore 4, 2) := dw_at cX13_leave_k4 (p := 9) rfl (by decide +kernel)
theorem dmX13_leave_109 : decode cX13_leave 109 = .ok (.iload_n 1, 1) := dw_at cX13_leave_k4 (p := 11) rfl (by decide +kernel)
theorem dmX13_leave_110 : decode cX13_leave 110 = .ok (.istore 5, 2) := dw_at cX13_leave_k4 (p := 12) rfl (by decide +kernel)
theorem dmX13_leave_112 : decode cX13_leave 112 = .ok (.iload 5, 2) := dw_at cX13_leave_k4 (p := 14) rfl (by decide +kernel)
theorem dmX13_leave_114 : decode cX13_leave 114 = .ok (.iload_n 2, 1) := dw_at cX13_leave_k4 (p := 16) rfl (by decide +kernel)
theorem dmX13_leave_115 : decode cX13_leave 115 = .ok (.if_icmp .ge 36, 3) := dw_at cX13_leave_k4 (p := 17) rfl (by decide +kernel)
theorem dmX13_leave_118 : decode cX13_leave 118 = .ok (.iload 4, 2) := dw_at cX13_leave_k4 (p := 20) rfl (by decide +kernel)
theorem dmX13_leave_120 : decode cX13_leave 120 = .ok (.aload_n 0, 1) := dw_at cX13_leave_k4 (p := 22) rfl (by decide +kernel)
theorem dmX13_leave_121 : decode cX13_leave 121 = .ok (.getfield 247, 3) := dw_at cX13_leave_k4 (p := 23) rfl (by decide +kernel)
theorem dmX13_leave_124 : decode cX13_leave 124 = .ok (.bipush 24, 2) := dw_at cX13_leave_k5 (p := 0) rfl (by decide +kernel)
theorem dmX13_leave_126 : decode cX13_leave 126 = .ok (.iload 5, 2) := dw_at cX13_leave_k5 (p := 2) rfl (by decide +kernel)
theorem dmX13_leave_128 : decode cX13_leave 128 = .ok (.imul, 1) := dw_at cX13_leave_k5 (p := 4) rfl (by decide +kernel)
theorem dmX13_leave_129 : decode cX13_leave 129 = .ok (.iload_n 3, 1) := dw_at cX13_leave_k5 (p := 5) rfl (by decide +kernel)
theorem dmX13_leave_130 : decode cX13_leave 130 = .ok (.iadd, 1) := dw_at cX13_leave_k5 (p := 6) rfl (by decide +kernel)
theorem dmX13_leave_131 : decode cX13_leave 131 = .ok (.laload, 1) := dw_at cX13_leave_k5 (p := 7) rfl (by decide +kernel)
theorem dmX13_leave_132 : decode cX13_leave 132 = .ok (.lconst 0, 1) := dw_at cX13_leave_k5 (p := 8) rfl (by decide +kernel)
theorem dmX13_leave_133 : decode cX13_leave 133 = .ok (.lcmp, 1) := dw_at cX13_leave_k5 (p := 9) rfl (by decide +kernel)
theorem dmX13_leave_134 : decode cX13_leave 134 = .ok (.ifCond .eq 7, 3) := dw_at cX13_leave_k5 (p := 10) rfl (by decide +kernel)
theorem dmX13_leave_137 : decode cX13_leave 137 = .ok (.iconst 1, 1) := dw_at cX13_leave_k5 (p := 13) rfl (by decide +kernel)
theorem dmX13_leave_138 : decode cX13_leave 138 = .ok (.goto 4, 3) := dw_at cX13_leave_k5 (p := 14) rfl (by decide +kernel)
theorem dmX13_leave_141 : decode cX13_leave 141 = .ok (.iconst 0, 1) := dw_at cX13_leave_k5 (p := 17) rfl (by decide +kernel)
theorem dmX13_leave_142 : decode cX13_leave 142 = .ok (.ior, 1) := dw_at cX13_leave_k5 (p := 18) rfl (by decide +kernel)
theorem dmX13_leave_143 : decode cX13_leave 143 = .ok (.istore 4, 2) := dw_at cX13_leave_k5 (p := 19) rfl (by decide +kernel)
theorem dmX13_leave_145 : decode cX13_leave 145 = .ok (.iinc 5 1, 3) := dw_at cX13_leave_k5 (p := 21) rfl (by decide +kernel)
theorem dmX13_leave_148 : decode cX13_leave 148 = .ok (.goto (-36), 3) := dw_at cX13_leave_k6 (p := 0) rfl (by decide +kernel)
theorem dmX13_leave_151 : decode cX13_leave 151 = .ok (.iload 4, 2) := dw_at cX13_leave_k6 (p := 3) rfl (by decide +kernel)
theorem dmX13_leave_153 : decode cX13_leave 153 = .ok (.ifCond .eq 23, 3) := dw_at cX13_leave_k6 (p := 5) rfl (by decide +kernel)
theorem dmX13_leave_156 : decode cX13_leave 156 = .ok (.aload_n 0, 1) := dw_at cX13_leave_k6 (p := 8) rfl (by decide +kernel)
theorem dmX13_leave_157 : decode cX13_leave 157 = .ok (.getfield 259, 3) := dw_at cX13_leave_k6 (p := 9) rfl (by decide +kernel)
theorem dmX13_leave_160 : decode cX13_leave 160 = .ok (.aload_n 0, 1) := dw_at cX13_leave_k6 (p := 12) rfl (by decide +kernel)
theorem dmX13_leave_161 : decode cX13_leave 161 = .ok (.getfield 654, 3) := dw_at cX13_leave_k6 (p := 13) rfl (by decide +kernel)
theorem dmX13_leave_164 : decode cX13_leave 164 = .ok (.iload_n 3, 1) := dw_at cX13_leave_k6 (p := 16) rfl (by decide +kernel)
theorem dmX13_leave_165 : decode cX13_leave 165 = .ok (.iastore, 1) := dw_at cX13_leave_k6 (p := 17) rfl (by decide +kernel)
theorem dmX13_leave_166 : decode cX13_leave 166 = .ok (.aload_n 0, 1) := dw_at cX13_leave_k6 (p := 18) rfl (by decide +kernel)
theorem dmX13_leave_167 : decode cX13_leave 167 = .ok (.dup, 1) := dw_at cX13_leave_k6 (p := 19) rfl (by decide +kernel)
theorem dmX13_leave_168 : decode cX13_leave 168 = .ok (.getfield 654, 3) := dw_at cX13_leave_k6 (p := 20) rfl (by decide +kernel)
theorem dmX13_leave_171 : decode cX13_leave 171 = .ok (.iconst 1, 1) := dw_at cX13_leave_k6 (p := 23) rfl (by decide +kernel)
theorem dmX13_leave_172 : decode cX13_leave 172 = .ok (.iadd, 1) := dw_at cX13_leave_k7 (p := 0) rfl (by decide +kernel)
theorem dmX13_leave_173 : decode cX13_leave 173 = .ok (.putfield 654, 3) := dw_at cX13_leave_k7 (p := 1) rfl (by decide +kernel)
theorem dmX13_leave_176 : decode cX13_leave 176 = .ok (.iinc 3 1, 3) := dw_at cX13_leave_k7 (p := 4) rfl (by decide +kernel)
theorem dmX13_leave_179 : decode cX13_leave 179 = .ok (.goto (-81), 3) := dw_at cX13_leave_k7 (p := 7) rfl (by decide +kernel)
theorem dmX13_leave_182 : decode cX13_leave 182 = .ok (.return_, 1) := dw_at cX13_leave_k7 (p := 10) rfl (by decide +kernel)
def qm_X13_leave_0 (K : Nat) (go : Nat → Int32 → Int32 → Int32 → Int32 → Int32 → Int32 → Int32 → ow_MS → Option ow_MS) (x1 : Int32) (x2 : Int32) (x3 : Int32) (x4 : Int32) (x5 : Int32) (t0 : Int32) (t1 : Int32) (z : ow_MS) : Option ow_MS :=
 wrF z 70 0 fun z1 => go 1 x1 x2 x1 0 0 0 0 z1
def qm_X13_leave_1 (K : Nat) (go : Nat → Int32 → Int32 → Int32 → Int32 → Int32 → Int32 → Int32 → ow_MS → Option ow_MS) (x1 : Int32) (x2 : Int32) (x3 : Int32) (x4 : Int32) (x5 : Int32) (t0 : Int32) (t1 : Int32) (z : ow_MS) : Option ow_MS :=
 (if x2 ≤ x3 then wrF z 71 0 fun z2 => go 5 x1 x2 x1 0 0 0 0 z2
 else go 2 x1 x2 x3 0 x1 0 0 z)
def qm_X13_leave_2 (K : Nat) (go : Nat → Int32 → Int32 → Int32 → Int32 → Int32 → Int32 → Int32 → ow_MS → Option ow_MS) (x1 : Int32) (x2 : Int32) (x3 : Int32) (x4 : Int32) (x5 : Int32) (t0 : Int32) (t1 : Int32) (z : ow_MS) : Option ow_MS :=
 rdF z 58 fun v3 => (if v3 ≤ x5 then (if x4 = 0 then go 4 x1 x2 x3 x4 x5 0 0 z
 else rdF z 70 fun v4 => wrI mX z 68 v4 x3 fun z5 => rdF z5 70 fun v6 => wrF z5 70 (v6 + 1) fun z7 => go 4 x1 x2 x3 x4 x5 0 0 z7)
 else rdJ mX z 64 ((24 * x3) + x5) fun v8 => (if (lg_cmp v8 0) = 0 then go 3 x1 x2 x3 x4 x5 0 x4 z
 else go 3 x1 x2 x3 x4 x5 1 x4 z))
def qm_X13_leave_3 (K : Nat) (go : Nat → Int32 → Int32 → Int32 → Int32 → Int32 → Int32 → Int32 → ow_MS → Option ow_MS) (x1 : Int32) (x2 : Int32) (x3 : Int32) (x4 : Int32) (x5 : Int32) (t0 : Int32) (t1 : Int32) (z : ow_MS) : Option ow_MS :=
 go 2 x1 x2 x3 (t1 ||| t0) (x5 + 1) 0 0 z
def qm_X13_leave_4 (K : Nat) (go : Nat → Int32 → Int32 → Int32 → Int32 → Int32 → Int32 → Int32 → ow_MS → Option ow_MS) (x1 : Int32) (x2 : Int32) (x3 : Int32) (x4 : Int32) (x5 : Int32) (t0 : Int32) (t1 : Int32) (z : ow_MS) : Option ow_MS :=
 go 1 x1 x2 (x3 + 1) 0 0 0 0 z
def qm_X13_leave_5 (K : Nat) (go : Nat → Int32 → Int32 → Int32 → Int32 → Int32 → Int32 → Int32 → ow_MS → Option ow_MS) (x1 : Int32) (x2 : Int32) (x3 : Int32) (x4 : Int32) (x5 : Int32) (t0 : Int32) (t1 : Int32) (z : ow_MS) : Option ow_MS :=
 rdF z 58 fun v9 => (if v9 ≤ x3 then some z
 else go 6 x1 x2 x3 0 x1 0 0 z)
def qm_X13_leave_6 (K : Nat) (go : Nat → Int32 → Int32 → Int32 → Int32 → Int32 → Int32 → Int32 → ow_MS → Option ow_MS) (x1 : Int32) (x2 : Int32) (x3 : Int32) (x4 : Int32) (x5 : Int32) (t0 : Int32) (t1 : Int32) (z : ow_MS) : Option ow_MS :=
 (if x2 ≤ x5 then (if x4 = 0 then go 8 x1 x2 x3 x4 x5 0 0 z
 else rdF z 71 fun v10 => wrI mX z 69 v10 x3 fun z11 => rdF z11 71 fun v12 => wrF z11 71 (v12 + 1) fun z13 => go 8 x1 x2 x3 x4 x5 0 0 z13)
 else rdJ mX z 64 ((24 * x5) + x3) fun v14 => (if (lg_cmp v14 0) = 0 then go 7 x1 x2 x3 x4 x5 0 x4 z
 else go 7 x1 x2 x3 x4 x5 1 x4 z))
def qm_X13_leave_7 (K : Nat) (go : Nat → Int32 → Int32 → Int32 → Int32 → Int32 → Int32 → Int32 → ow_MS → Option ow_MS) (x1 : Int32) (x2 : Int32) (x3 : Int32) (x4 : Int32) (x5 : Int32) (t0 : Int32) (t1 : Int32) (z : ow_MS) : Option ow_MS :=
 go 6 x1 x2 x3 (t1 ||| t0) (x5 + 1) 0 0 z
def qm_X13_leave_8 (K : Nat) (go : Nat → Int32 → Int32 → Int32 → Int32 → Int32 → Int32 → Int32 → ow_MS → Option ow_MS) (x1 : Int32) (x2 : Int32) (x3 : Int32) (x4 : Int32) (x5 : Int32) (t0 : Int32) (t1 : Int32) (z : ow_MS) : Option ow_MS :=
 go 5 x1 x2 (x3 + 1) 0 0 0 0 z
def qb_X13_leave (K : Nat) (go : Nat → Int32 → Int32 → Int32 → Int32 → Int32 → Int32 → Int32 → ow_MS → Option ow_MS) (L : Nat) (x1 : Int32) (x2 : Int32) (x3 : Int32) (x4 : Int32) (x5 : Int32) (t0 : Int32) (t1 : Int32) (z : ow_MS) : Option ow_MS := match L with
  | 0 => qm_X13_leave_0 K go x1 x2 x3 x4 x5 t0 t1 z
  | 1 => qm_X13_leave_1 K go x1 x2 x3 x4 x5 t0 t1 z
  | 2 => qm_X13_leave_2 K go x1 x2 x3 x4 x5 t0 t1 z
  | 3 => qm_X13_leave_3 K go x1 x2 x3 x4 x5 t0 t1 z
  | 4 => qm_X13_leave_4 K go x1 x2 x3 x4 x5 t0 t1 z
  | 5 => qm_X13_leave_5 K go x1 x2 x3 x4 x5 t0 t1 z
  | 6 => qm_X13_leave_6 K go x1 x2 x3 x4 x5 t0 t1 z
  | 7 => qm_X13_leave_7 K go x1 x2 x3 x4 x5 t0 t1 z
  | 8 => qm_X13_leave_8 K go x1 x2 x3 x4 x5 t0 t1 z
  | _ => none
def q_X13_leave (K : Nat) : Nat → Nat → Int32 → Int32 → Int32 → Int32 → Int32 → Int32 → Int32 → ow_MS → Option ow_MS
  | 0 => fun _ _ _ _ _ _ _ _ _ => none
  | k + 1 => qb_X13_leave K (q_X13_leave K k)
def qe_X13_leave (K : Nat) (x1 : Int32) (x2 : Int32) (z : ow_MS) : Option ow_MS := q_X13_leave K K 0 x1 x2 0 0 0 0 0 z
abbrev wm_X13_leave : List Cond := .code yX13_leave cX13_leave 6 none :: wM
theorem cd_X13_leave : yX13_leave.cls = RX13 ∧ yX13_leave.cls ≠ "java/lang/invoke/MethodHandle" ∧ yX13_leave.cls ≠ "java/lang/invoke/VarHandle" ∧ (parseMethodDescriptor yX13_leave.desc).map (fun d => d.parameters.length) = some 2 := by decide +kernel
set_option maxHeartbeats 4000000 in
set_option maxRecDepth 100000 in
theorem km_X13_leave (l : Launch) (D : va_G) (q : ow_Q5) (u : Nat → Nat) (hU : tw_inj mX u) (K : Nat) (x1 : Int32) (x2 : Int32)  (z z1 : ow_MS) (hq : qe_X13_leave K x1 x2 z = some z1) : Met l yX13_leave wm_X13_leave ({ frames := 0, cells := 0, slots := 0, locals := 0 } : Room) (va_Pc [.ref (u 0), .int x1, .int x2] (mw_pre D q u z)) (va_Qv (fun (_ : Unit) => True) (fun _ t => va_P D vwCl (tw mX q u z1) t.heap) (tw_A mX u)) 0 0 (tw_A mX u) := by
  refine Met.ofW (cc := cX13_leave) (maxL := 6) (ret := none) (by decide) rfl ?_
  intro p e s m args below meth c s₁ B hml hv
  obtain ⟨rfl, hP, hK, hN⟩ := hv
  have hx := B.exec
  have hb := B.bytes
  have hr := B.returns
  have hts := atoms_spec (ws := wm_X13_leave) B.pre
  have hT : ∀ w ∈ wM, w.before ([.ref (u 0), .int x1, .int x2] : List Value).toArray s = true := fun w h => hts w (List.mem_cons_of_mem _ h)
  have hown : s.vm.findClass RX13 = some m.cls := findClass_of_methodNamed B.named
  have hlocks := B.notSynchronized
  have hM : tw_M D vwCl mX q s.heap u z s.heap [] := ⟨hP, va_S.rf⟩
  have hl := lv_entry ([.ref (u 0), .int x1, .int x2]) (n := 6) (Nat.le_of_ble_eq_true rfl)
  rw [lg_entry_eq]
  generalize (lg_sl ([.ref (u 0), .int x1, .int x2]) ++ List.replicate (6 - (lg_sl ([.ref (u 0), .int x1, .int x2])).length) Slot.unset).toArray = ls at hl ⊢
  have hl : lv_has ls 6 [(0, .ref (u 0)), (1, .int x1), (2, .int x2)] := hl
  refine ow_named (fun QQ hQQ => ?_)
  generalize ([.ref (u 0), .int x1, .int x2] : List Value).toArray = args at hts hT hQQ ⊢
  have key : ∀ k : Nat, (∀ (x1 : Int32) (x2 : Int32) (x3 : Int32) (x4 : Int32) (x5 : Int32) (t0 : Int32) (t1 : Int32) (z : ow_MS) (H : Heap) (locs : List Loc) (ls : Array Slot), tw_M D vwCl mX q s.heap u z H locs → lv_has ls 6 [(0, .ref (u 0)), (1, .int x1), (2, .int x2)] → q_X13_leave K k 0 x1 x2 x3 x4 x5 t0 t1 z = some z1 → W p l e ({ frames := 0, cells := 0, slots := 0, locals := 0 } : Room) s m args below meth c H locs 0 0 QQ (F0 m 0 ls [])) ∧ (∀ (x1 : Int32) (x2 : Int32) (x3 : Int32) (x4 : Int32) (x5 : Int32) (t0 : Int32) (t1 : Int32) (z : ow_MS) (H : Heap) (locs : List Loc) (ls : Array Slot), tw_M D vwCl mX q s.heap u z H locs → lv_has ls 6 [(0, .ref (u 0)), (1, .int x1), (2, .int x2), (3, .int x3)] → q_X13_leave K k 1 x1 x2 x3 x4 x5 t0 t1 z = some z1 → W p l e ({ frames := 0, cells := 0, slots := 0, locals := 0 } : Room) s m args below meth c H locs 0 0 QQ (F0 m 7 ls [])) ∧ (∀ (x1 : Int32) (x2 : Int32) (x3 : Int32) (x4 : Int32) (x5 : Int32) (t0 : Int32) (t1 : Int32) (z : ow_MS) (H : Heap) (locs : List Loc) (ls : Array Slot), tw_M D vwCl mX q s.heap u z H locs → lv_has ls 6 [(0, .ref (u 0)), (1, .int x1), (2, .int x2), (3, .int x3), (4, .int x4), (5, .int x5)] → q_X13_leave K k 2 x1 x2 x3 x4 x5 t0 t1 z = some z1 → W p l e ({ frames := 0, cells := 0, slots := 0, locals := 0 } : Room) s m args below meth c H locs 0 0 QQ (F0 m 18 ls [])) ∧ (∀ (x1 : Int32) (x2 : Int32) (x3 : Int32) (x4 : Int32) (x5 : Int32) (t0 : Int32) (t1 : Int32) (z : ow_MS) (H : Heap) (locs : List Loc) (ls : Array Slot), tw_M D vwCl mX q s.heap u z H locs → lv_has ls 6 [(0, .ref (u 0)), (1, .int x1), (2, .int x2), (3, .int x3), (4, .int x4), (5, .int x5)] → q_X13_leave K k 3 x1 x2 x3 x4 x5 t0 t1 z = some z1 → W p l e ({ frames := 0, cells := 0, slots := 0, locals := 0 } : Room) s m args below meth c H locs 0 0 QQ (F0 m 51 ls [.int t0, .int t1])) ∧ (∀ (x1 : Int32) (x2 : Int32) (x3 : Int32) (x4 : Int32) (x5 : Int32) (t0 : Int32) (t1 : Int32) (z : ow_MS) (H : Heap) (locs : List Loc) (ls : Array Slot), tw_M D vwCl mX q s.heap u z H locs → lv_has ls 6 [(0, .ref (u 0)), (1, .int x1), (2, .int x2), (3, .int x3), (4, .int x4), (5, .int x5)] → q_X13_leave K k 4 x1 x2 x3 x4 x5 t0 t1 z = some z1 → W p l e ({ frames := 0, cells := 0, slots := 0, locals := 0 } : Room) s m args below meth c H locs 0 0 QQ (F0 m 85 ls [])) ∧ (∀ (x1 : Int32) (x2 : Int32) (x3 : Int32) (x4 : Int32) (x5 : Int32) (t0 : Int32) (t1 : Int32) (z : ow_MS) (H : Heap) (locs : List Loc) (ls : Array Slot), tw_M D vwCl mX q s.heap u z H locs → lv_has ls 6 [(0, .ref (u 0)), (1, .int x1), (2, .int x2), (3, .int x3)] → q_X13_leave K k 5 x1 x2 x3 x4 x5 t0 t1 z = some z1 → W p l e ({ frames := 0, cells := 0, slots := 0, locals := 0 } : Room) s m args below meth c H locs 0 0 QQ (F0 m 98 ls [])) ∧ (∀ (x1 : Int32) (x2 : Int32) (x3 : Int32) (x4 : Int32) (x5 : Int32) (t0 : Int32) (t1 : Int32) (z : ow_MS) (H : Heap) (locs : List Loc) (ls : Array Slot), tw_M D vwCl mX q s.heap u z H locs → lv_has ls 6 [(0, .ref (u 0)), (1, .int x1), (2, .int x2), (3, .int x3), (4, .int x4), (5, .int x5)] → q_X13_leave K k 6 x1 x2 x3 x4 x5 t0 t1 z = some z1 → W p l e ({ frames := 0, cells := 0, slots := 0, locals := 0 } : Room) s m args below meth c H locs 0 0 QQ (F0 m 112 ls [])) ∧ (∀ (x1 : Int32) (x2 : Int32) (x3 : Int32) (x4 : Int32) (x5 : Int32) (t0 : Int32) (t1 : Int32) (z : ow_MS) (H : Heap) (locs : List Loc) (ls : Array Slot), tw_M D vwCl mX q s.heap u z H locs → lv_has ls 6 [(0, .ref (u 0)), (1, .int x1), (2, .int x2), (3, .int x3), (4, .int x4), (5, .int x5)] → q_X13_leave K k 7 x1 x2 x3 x4 x5 t0 t1 z = some z1 → W p l e ({ frames := 0, cells := 0, slots := 0, locals := 0 } : Room) s m args below meth c H locs 0 0 QQ (F0 m 142 ls [.int t0, .int t1])) ∧ (∀ (x1 : Int32) (x2 : Int32) (x3 : Int32) (x4 : Int32) (x5 : Int32) (t0 : Int32) (t1 : Int32) (z : ow_MS) (H : Heap) (locs : List Loc) (ls : Array Slot), tw_M D vwCl mX q s.heap u z H locs → lv_has ls 6 [(0, .ref (u 0)), (1, .int x1), (2, .int x2), (3, .int x3), (4, .int x4), (5, .int x5)] → q_X13_leave K k 8 x1 x2 x3 x4 x5 t0 t1 z = some z1 → W p l e ({ frames := 0, cells := 0, slots := 0, locals := 0 } : Room) s m args below meth c H locs 0 0 QQ (F0 m 176 ls [])) := by
    intro k
    induction k with
    | zero => exact ⟨fun _ _ _ _ _ _ _ _ _ _ _  _ _ hq => tw_no hq, fun _ _ _ _ _ _ _ _ _ _ _  _ _ hq => tw_no hq, fun _ _ _ _ _ _ _ _ _ _ _  _ _ hq => tw_no hq, fun _ _ _ _ _ _ _ _ _ _ _  _ _ hq => tw_no hq, fun _ _ _ _ _ _ _ _ _ _ _  _ _ hq => tw_no hq, fun _ _ _ _ _ _ _ _ _ _ _  _ _ hq => tw_no hq, fun _ _ _ _ _ _ _ _ _ _ _  _ _ hq => tw_no hq, fun _ _ _ _ _ _ _ _ _ _ _  _ _ hq => tw_no hq, fun _ _ _ _ _ _ _ _ _ _ _  _ _ hq => tw_no hq⟩
    | succ k ih =>
      obtain ⟨ih_0, ih_1, ih_2, ih_3, ih_4, ih_5, ih_6, ih_7, ih_8⟩ := ih
      refine ⟨?_, ?_, ?_, ?_, ?_, ?_, ?_, ?_, ?_⟩
      · intro x1 x2 x3 x4 x5 t0 t1 z H locs ls  hM hl hq
        have hq : qm_X13_leave_0 K (q_X13_leave K k) x1 x2 x3 x4 x5 t0 t1 z = some z1 := hq
        unfold qm_X13_leave_0 at hq
        refine lv_aload_n hx hb dmX13_leave_0 rfl (lv_at hl 0 rfl) ?_
        refine lv_iconst (v := 0) hx hb dmX13_leave_1 (by decide) ?_
        refine mp13_651 hx hb hT hown hK hM hU hq dmX13_leave_2 (fun z1 H locs hM hq => ?_)
        refine lv_iload_n hx hb dmX13_leave_5 rfl (lv_at hl 1 rfl) ?_
        refine lv_istore_n (lv' := [(3, .int x1), (0, .ref (u 0)), (1, .int x1), (2, .int x2)]) hx hb dmX13_leave_6 rfl hl (by decide) rfl (fun ls hl => ?_)
        exact ih_1 x1 x2 x1 0 0 0 0 z1 H locs ls hM (lv_sub hl [1, 2, 3, 0] rfl) hq
      · intro x1 x2 x3 x4 x5 t0 t1 z H locs ls  hM hl hq
        have hq : qm_X13_leave_1 K (q_X13_leave K k) x1 x2 x3 x4 x5 t0 t1 z = some z1 := hq
        unfold qm_X13_leave_1 at hq
        refine lv_iload_n hx hb dmX13_leave_7 rfl (lv_at hl 3 rfl) ?_
        refine lv_iload_n hx hb dmX13_leave_8 rfl (lv_at hl 2 rfl) ?_
        refine lv_icmp_ge (tgt := 91) hx hb dmX13_leave_9 (by decide) (fun hc => ?_) (fun hc => ?_)
        · have hq := tw_it hq hc
          refine lv_aload_n hx hb dmX13_leave_91 rfl (lv_at hl 0 rfl) ?_
          refine lv_iconst (v := 0) hx hb dmX13_leave_92 (by decide) ?_
          refine mp13_654 hx hb hT hown hK hM hU hq dmX13_leave_93 (fun z2 H locs hM hq => ?_)
          refine lv_iload_n hx hb dmX13_leave_96 rfl (lv_at hl 1 rfl) ?_
          refine lv_istore_n (lv' := [(3, .int x1), (0, .ref (u 0)), (1, .int x1), (2, .int x2)]) hx hb dmX13_leave_97 rfl hl (by decide) rfl (fun ls hl => ?_)
          exact ih_5 x1 x2 x1 0 0 0 0 z2 H locs ls hM (lv_sub hl [1, 2, 3, 0] rfl) hq
        · have hq := tw_if hq hc
          refine lv_iconst (v := 0) hx hb dmX13_leave_12 (by decide) ?_
          refine lv_istore (lv' := [(4, .int 0), (0, .ref (u 0)), (1, .int x1), (2, .int x2), (3, .int x3)]) hx hb dmX13_leave_13 hl (by decide) rfl (fun ls hl => ?_)
          refine lv_iload_n hx hb dmX13_leave_15 rfl (lv_at hl 2 rfl) ?_
          refine lv_istore (lv' := [(5, .int x1), (4, .int 0), (0, .ref (u 0)), (1, .int x1), (2, .int x2), (3, .int x3)]) hx hb dmX13_leave_16 hl (by decide) rfl (fun ls hl => ?_)
          exact ih_2 x1 x2 x3 0 x1 0 0 z H locs ls hM (lv_sub hl [2, 3, 4, 5, 1, 0] rfl) hq
      · intro x1 x2 x3 x4 x5 t0 t1 z H locs ls  hM hl hq
        have hq : qm_X13_leave_2 K (q_X13_leave K k) x1 x2 x3 x4 x5 t0 t1 z = some z1 := hq
        unfold qm_X13_leave_2 at hq
        refine lv_iload hx hb dmX13_leave_18 (lv_at hl 5 rfl) ?_
        refine lv_aload_n hx hb dmX13_leave_20 rfl (lv_at hl 0 rfl) ?_
        refine mg13_626 hx hb hT hown hK hM hq dmX13_leave_21 (fun v3 hq => ?_)
        refine lv_icmp_ge (tgt := 60) hx hb dmX13_leave_24 (by decide) (fun hc => ?_) (fun hc => ?_)
        · have hq := tw_it hq hc
          refine lv_iload hx hb dmX13_leave_60 (lv_at hl 4 rfl) ?_
          refine lv_if_eq (tgt := 85) hx hb dmX13_leave_62 (by decide) (fun hc => ?_) (fun hc => ?_)
          · have hq := tw_it hq hc
            exact ih_4 x1 x2 x3 x4 x5 0 0 z H locs ls hM (lv_sub hl [0, 1, 2, 3, 4, 5] rfl) hq
          · have hq := tw_if hq hc
            refine lv_aload_n hx hb dmX13_leave_65 rfl (lv_at hl 0 rfl) ?_
            refine mg13_256 hx hb hT hown hK hM dmX13_leave_66 ?_
            refine lv_aload_n hx hb dmX13_leave_69 rfl (lv_at hl 0 rfl) ?_
            refine mg13_651 hx hb hT hown hK hM hq dmX13_leave_70 (fun v4 hq => ?_)
            refine lv_iload_n hx hb dmX13_leave_73 rfl (lv_at hl 3 rfl) ?_
            refine tw_iast mX_ok hU hx hb hK hM mr_68 hq dmX13_leave_74 (fun z5 H locs hM hq => ?_)
            refine lv_aload_n hx hb dmX13_leave_75 rfl (lv_at hl 0 rfl) ?_
            refine lv_dup hx hb dmX13_leave_76 rfl ?_
            refine mg13_651 hx hb hT hown hK hM hq dmX13_leave_77 (fun v6 hq => ?_)
            refine lv_iconst (v := 1) hx hb dmX13_leave_80 (by decide) ?_
            refine lv_iadd hx hb dmX13_leave_81 ?_
            refine mp13_651 hx hb hT hown hK hM hU hq dmX13_leave_82 (fun z7 H locs hM hq => ?_)
            exact ih_4 x1 x2 x3 x4 x5 0 0 z7 H locs ls hM (lv_sub hl [0, 1, 2, 3, 4, 5] rfl) hq
        · have hq := tw_if hq hc
          refine lv_iload hx hb dmX13_leave_27 (lv_at hl 4 rfl) ?_
          refine lv_aload_n hx hb dmX13_leave_29 rfl (lv_at hl 0 rfl) ?_
          refine mg13_247 hx hb hT hown hK hM dmX13_leave_30 ?_
          refine lv_bipush (v := 24) hx hb dmX13_leave_33 (by decide) ?_
          refine lv_iload_n hx hb dmX13_leave_35 rfl (lv_at hl 3 rfl) ?_
          refine lv_imul hx hb dmX13_leave_36 ?_
          refine lv_iload hx hb dmX13_leave_37 (lv_at hl 5 rfl) ?_
          refine lv_iadd hx hb dmX13_leave_39 ?_
          refine tw_lald mX_ok hx hb hK hM mr_64 hq dmX13_leave_40 (fun v8 hq => ?_)
          refine lv_lconst (v := 0) hx hb dmX13_leave_41 rfl ?_
          refine W.lcmp hx hb dmX13_leave_42 ?_
          refine lv_if_eq (tgt := 50) hx hb dmX13_leave_43 (by decide) (fun hc => ?_) (fun hc => ?_)
          · have hq := tw_it hq hc
            refine lv_iconst (v := 0) hx hb dmX13_leave_50 (by decide) ?_
            exact ih_3 x1 x2 x3 x4 x5 0 x4 z H locs ls hM (lv_sub hl [0, 1, 2, 3, 4, 5] rfl) hq
          · have hq := tw_if hq hc
            refine lv_iconst (v := 1) hx hb dmX13_leave_46 (by decide) ?_
            refine lv_goto (tgt := 51) hx hb dmX13_leave_47 (by decide) ?_
            exact ih_3 x1 x2 x3 x4 x5 1 x4 z H locs ls hM (lv_sub hl [0, 1, 2, 3, 4, 5] rfl) hq
      · intro x1 x2 x3 x4 x5 t0 t1 z H locs ls  hM hl hq
        have hq : qm_X13_leave_3 K (q_X13_leave K k) x1 x2 x3 x4 x5 t0 t1 z = some z1 := hq
        unfold qm_X13_leave_3 at hq
        refine lv_ior hx hb dmX13_leave_51 ?_
        refine lv_istore (lv' := [(4, .int (t1 ||| t0)), (0, .ref (u 0)), (1, .int x1), (2, .int x2), (3, .int x3), (5, .int x5)]) hx hb dmX13_leave_52 hl (by decide) rfl (fun ls hl => ?_)
        refine lv_iinc (v := (x5 + 1)) (lv' := [(5, .int (x5 + 1)), (4, .int (t1 ||| t0)), (0, .ref (u 0)), (1, .int x1), (2, .int x2), (3, .int x3)]) hx hb dmX13_leave_54 hl (k := 5) rfl rfl (by decide) rfl (fun ls hl => ?_)
        refine lv_goto (tgt := 18) hx hb dmX13_leave_57 (by decide) ?_
        exact ih_2 x1 x2 x3 (t1 ||| t0) (x5 + 1) 0 0 z H locs ls hM (lv_sub hl [2, 3, 4, 5, 1, 0] rfl) hq
      · intro x1 x2 x3 x4 x5 t0 t1 z H locs ls  hM hl hq
        have hq : qm_X13_leave_4 K (q_X13_leave K k) x1 x2 x3 x4 x5 t0 t1 z = some z1 := hq
        unfold qm_X13_leave_4 at hq
        refine lv_iinc (v := (x3 + 1)) (lv' := [(3, .int (x3 + 1)), (0, .ref (u 0)), (1, .int x1), (2, .int x2), (4, .int x4), (5, .int x5)]) hx hb dmX13_leave_85 hl (k := 3) rfl rfl (by decide) rfl (fun ls hl => ?_)
        refine lv_goto (tgt := 7) hx hb dmX13_leave_88 (by decide) ?_
        exact ih_1 x1 x2 (x3 + 1) 0 0 0 0 z H locs ls hM (lv_sub hl [1, 2, 3, 0] rfl) hq
      · intro x1 x2 x3 x4 x5 t0 t1 z H locs ls  hM hl hq
        have hq : qm_X13_leave_5 K (q_X13_leave K k) x1 x2 x3 x4 x5 t0 t1 z = some z1 := hq
        unfold qm_X13_leave_5 at hq
        refine lv_iload_n hx hb dmX13_leave_98 rfl (lv_at hl 3 rfl) ?_
        refine lv_aload_n hx hb dmX13_leave_99 rfl (lv_at hl 0 rfl) ?_
        refine mg13_626 hx hb hT hown hK hM hq dmX13_leave_100 (fun v9 hq => ?_)
        refine lv_icmp_ge (tgt := 182) hx hb dmX13_leave_103 (by decide) (fun hc => ?_) (fun hc => ?_)
        · have hq := tw_it hq hc
          exact mw_vret hx hb hr hlocks hM hq hQQ dmX13_leave_182
        · have hq := tw_if hq hc
          refine lv_iconst (v := 0) hx hb dmX13_leave_106 (by decide) ?_
          refine lv_istore (lv' := [(4, .int 0), (0, .ref (u 0)), (1, .int x1), (2, .int x2), (3, .int x3)]) hx hb dmX13_leave_107 hl (by decide) rfl (fun ls hl => ?_)
          refine lv_iload_n hx hb dmX13_leave_109 rfl (lv_at hl 2 rfl) ?_
          refine lv_istore (lv' := [(5, .int x1), (4, .int 0), (0, .ref (u 0)), (1, .int x1), (2, .int x2), (3, .int x3)]) hx hb dmX13_leave_110 hl (by decide) rfl (fun ls hl => ?_)
          exact ih_6 x1 x2 x3 0 x1 0 0 z H locs ls hM (lv_sub hl [2, 3, 4, 5, 1, 0] rfl) hq
      · intro x1 x2 x3 x4 x5 t0 t1 z H locs ls  hM hl hq
        have hq : qm_X13_leave_6 K (q_X13_leave K k) x1 x2 x3 x4 x5 t0 t1 z = some z1 := hq
        unfold qm_X13_leave_6 at hq
        refine lv_iload hx hb dmX13_leave_112 (lv_at hl 5 rfl) ?_
        refine lv_iload_n hx hb dmX13_leave_114 rfl (lv_at hl 2 rfl) ?_
        refine lv_icmp_ge (tgt := 151) hx hb dmX13_leave_115 (by decide) (fun hc => ?_) (fun hc => ?_)
        · have hq := tw_it hq hc
          refine lv_iload hx hb dmX13_leave_151 (lv_at hl 4 rfl) ?_
          refine lv_if_eq (tgt := 176) hx hb dmX13_leave_153 (by decide) (fun hc => ?_) (fun hc => ?_)
          · have hq := tw_it hq hc
            exact ih_8 x1 x2 x3 x4 x5 0 0 z H locs ls hM (lv_sub hl [0, 1, 2, 3, 4, 5] rfl) hq
          · have hq := tw_if hq hc
            refine lv_aload_n hx hb dmX13_leave_156 rfl (lv_at hl 0 rfl) ?_
            refine mg13_259 hx hb hT hown hK hM dmX13_leave_157 ?_
            refine lv_aload_n hx hb dmX13_leave_160 rfl (lv_at hl 0 rfl) ?_
            refine mg13_654 hx hb hT hown hK hM hq dmX13_leave_161 (fun v10 hq => ?_)
            refine lv_iload_n hx hb dmX13_leave_164 rfl (lv_at hl 3 rfl) ?_
            refine tw_iast mX_ok hU hx hb hK hM mr_69 hq dmX13_leave_165 (fun z11 H locs hM hq => ?_)
            refine lv_aload_n hx hb dmX13_leave_166 rfl (lv_at hl 0 rfl) ?_
            refine lv_dup hx hb dmX13_leave_167 rfl ?_
            refine mg13_654 hx hb hT hown hK hM hq dmX13_leave_168 (fun v12 hq => ?_)
            refine lv_iconst (v := 1) hx hb dmX13_leave_171 (by decide) ?_
            refine lv_iadd hx hb dmX13_leave_172 ?_
            refine mp13_654 hx hb hT hown hK hM hU hq dmX13_leave_173 (fun z13 H locs hM hq => ?_)
            exact ih_8 x1 x2 x3 x4 x5 0 0 z13 H locs ls hM (lv_sub hl [0, 1, 2, 3, 4, 5] rfl) hq
        · have hq := tw_if hq hc
          refine lv_iload hx hb dmX13_leave_118 (lv_at hl 4 rfl) ?_
          refine lv_aload_n hx hb dmX13_leave_120 rfl (lv_at hl 0 rfl) ?_
          refine mg13_247 hx hb hT hown hK hM dmX13_leave_121 ?_
          refine lv_bipush (v := 24) hx hb dmX13_leave_124 (by decide) ?_
          refine lv_iload hx hb dmX13_leave_126 (lv_at hl 5 rfl) ?_
          refine lv_imul hx hb dmX13_leave_128 ?_
          refine lv_iload_n hx hb dmX13_leave_129 rfl (lv_at hl 3 rfl) ?_
          refine lv_iadd hx hb dmX13_leave_130 ?_
          refine tw_lald mX_ok hx hb hK hM mr_64 hq dmX13_leave_131 (fun v14 hq => ?_)
          refine lv_lconst (v := 0) hx hb dmX13_leave_132 rfl ?_
          refine W.lcmp hx hb dmX13_leave_133 ?_
          refine lv_if_eq (tgt := 141) hx hb dmX13_leave_134 (by decide) (fun hc => ?_) (fun hc => ?_)
          · have hq := tw_it hq hc
            refine lv_iconst (v := 0) hx hb dmX13_leave_141 (by decide) ?_
            exact ih_7 x1 x2 x3 x4 x5 0 x4 z H locs ls hM (lv_sub hl [0, 1, 2, 3, 4, 5] rfl) hq
          · have hq := tw_if hq hc
            refine lv_iconst (v := 1) hx hb dmX13_leave_137 (by decide) ?_
            refine lv_goto (tgt := 142) hx hb dmX13_leave_138 (by decide) ?_
            exact ih_7 x1 x2 x3 x4 x5 1 x4 z H locs ls hM (lv_sub hl [0, 1, 2, 3, 4, 5] rfl) hq
      · intro x1 x2 x3 x4 x5 t0 t1 z H locs ls  hM hl hq
        have hq : qm_X13_leave_7 K (q_X13_leave K k) x1 x2 x3 x4 x5 t0 t1 z = some z1 := hq
        unfold qm_X13_leave_7 at hq
        refine lv_ior hx hb dmX13_leave_142 ?_
        refine lv_istore (lv' := [(4, .int (t1 ||| t0)), (0, .ref (u 0)), (1, .int x1), (2, .int x2), (3, .int x3), (5, .int x5)]) hx hb dmX13_leave_143 hl (by decide) rfl (fun ls hl => ?_)
        refine lv_iinc (v := (x5 + 1)) (lv' := [(5, .int (x5 + 1)), (4, .int (t1 ||| t0)), (0, .ref (u 0)), (1, .int x1), (2, .int x2), (3, .int x3)]) hx hb dmX13_leave_145 hl (k := 5) rfl rfl (by decide) rfl (fun ls hl => ?_)
        refine lv_goto (tgt := 112) hx hb dmX13_leave_148 (by decide) ?_
        exact ih_6 x1 x2 x3 (t1 ||| t0) (x5 + 1) 0 0 z H locs ls hM (lv_sub hl [2, 3, 4, 5, 1, 0] rfl) hq
      · intro x1 x2 x3 x4 x5 t0 t1 z H locs ls  hM hl hq
        have hq : qm_X13_leave_8 K (q_X13_leave K k) x1 x2 x3 x4 x5 t0 t1 z = some z1 := hq
        unfold qm_X13_leave_8 at hq
        refine lv_iinc (v := (x3 + 1)) (lv' := [(3, .int (x3 + 1)), (0, .ref (u 0)), (1, .int x1), (2, .int x2), (4, .int x4), (5, .int x5)]) hx hb dmX13_leave_176 hl (k := 3) rfl rfl (by decide) rfl (fun ls hl => ?_)
        refine lv_goto (tgt := 98) hx hb dmX13_leave_179 (by decide) ?_
        exact ih_5 x1 x2 (x3 + 1) 0 0 0 0 z H locs ls hM (lv_sub hl [1, 2, 3, 0] rfl) hq
  exact (key K).1 x1 x2 0 0 0 0 0 z s.heap [] ls  hM (lv_sub hl [0, 1, 2] rfl) hq
theorem dmX13_unit_0 : decode cX13_unit 0 = .ok (.iconst (-1), 1) := dw_at cX13_unit_k0 (p := 0) rfl (by decide +kernel)
theorem dmX13_unit_1 : decode cX13_unit 1 = .ok (.istore_n 3, 1) := dw_at cX13_unit_k0 (p := 1) rfl (by decide +kernel)
theorem dmX13_unit_2 : decode cX13_unit 2 = .ok (.iconst (-1), 1) := dw_at cX13_unit_k0 (p := 2) rfl (by decide +kernel)
theorem dmX13_unit_3 : decode cX13_unit 3 = .ok (.istore 4, 2) := dw_at cX13_unit_k0 (p := 3) rfl (by decide +kernel)
theorem dmX13_unit_5 : decode cX13_unit 5 = .ok (.iload_n 1, 1) := dw_at cX13_unit_k0 (p := 5) rfl (by decide +kernel)
theorem dmX13_unit_6 : decode cX13_unit 6 = .ok (.istore 5, 2) := dw_at cX13_unit_k0 (p := 6) rfl (by decide +kernel)
theorem dmX13_unit_8 : decode cX13_unit 8 = .ok (.iload 5, 2) := dw_at cX13_unit_k0 (p := 8) rfl (by decide +kernel)
theorem dmX13_unit_10 : decode cX13_unit 10 = .ok (.iload_n 2, 1) := dw_at cX13_unit_k0 (p := 10) rfl (by decide +kernel)
theorem dmX13_unit_11 : decode cX13_unit 11 = .ok (.if_icmp .ge 65, 3) := dw_at cX13_unit_k0 (p := 11) rfl (by decide +kernel)
theorem dmX13_unit_14 : decode cX13_unit 14 = .ok (.iload_n 3, 1) := dw_at cX13_unit_k0 (p := 14) rfl (by decide +kernel)
theorem dmX13_unit_15 : decode cX13_unit 15 = .ok (.iconst (-1), 1) := dw_at cX13_unit_k0 (p := 15) rfl (by decide +kernel)
theorem dmX13_unit_16 : decode cX13_unit 16 = .ok (.if_icmp .ne 60, 3) := dw_at cX13_unit_k0 (p := 16) rfl (by decide +kernel)
theorem dmX13_unit_19 : decode cX13_unit 19 = .ok (.iload_n 1, 1) := dw_at cX13_unit_k0 (p := 19) rfl (by decide +kernel)
theorem dmX13_unit_20 : decode cX13_unit 20 = .ok (.istore 6, 2) := dw_at cX13_unit_k0 (p := 20) rfl (by decide +kernel)
theorem dmX13_unit_22 : decode cX13_unit 22 = .ok (.iload 6, 2) := dw_at cX13_unit_k0 (p := 22) rfl (by decide +kernel)
theorem dmX13_unit_24 : decode cX13_unit 24 = .ok (.aload_n 0, 1) := dw_at cX13_unit_k1 (p := 0) rfl (by decide +kernel)
theorem dmX13_unit_25 : decode cX13_unit 25 = .ok (.getfield 626, 3) := dw_at cX13_unit_k1 (p := 1) rfl (by decide +kernel)
theorem dmX13_unit_28 : decode cX13_unit 28 = .ok (.if_icmp .ge 42, 3) := dw_at cX13_unit_k1 (p := 4) rfl (by decide +kernel)
theorem dmX13_unit_31 : decode cX13_unit 31 = .ok (.iload_n 3, 1) := dw_at cX13_unit_k1 (p := 7) rfl (by decide +kernel)
theorem dmX13_unit_32 : decode cX13_unit 32 = .ok (.iconst (-1), 1) := dw_at cX13_unit_k1 (p := 8) rfl (by decide +kernel)
theorem dmX13_unit_33 : decode cX13_unit 33 = .ok (.if_icmp .ne 37, 3) := dw_at cX13_unit_k1 (p := 9) rfl (by decide +kernel)
theorem dmX13_unit_36 : decode cX13_unit 36 = .ok (.aload_n 0, 1) := dw_at cX13_unit_k1 (p := 12) rfl (by decide +kernel)
theorem dmX13_unit_37 : decode cX13_unit 37 = .ok (.getfield 247, 3) := dw_at cX13_unit_k1 (p := 13) rfl (by decide +kernel)
theorem dmX13_unit_40 : decode cX13_unit 40 = .ok (.bipush 24, 2) := dw_at cX13_unit_k1 (p := 16) rfl (by decide +kernel)
theorem dmX13_unit_42 : decode cX13_unit 42 = .ok (.iload 5, 2) := dw_at cX13_unit_k1 (p := 18) rfl (by decide +kernel)
theorem dmX13_unit_44 : decode cX13_unit 44 = .ok (.imul, 1) := dw_at cX13_unit_k1 (p := 20) rfl (by decide +kernel)
theorem dmX13_unit_45 : decode cX13_unit 45 = .ok (.iload 6, 2) := dw_at cX13_unit_k1 (p := 21) rfl (by decide +kernel)
theorem dmX13_unit_47 : decode cX13_unit 47 = .ok (.iadd, 1) := dw_at cX13_unit_k1 (p := 23) rfl (by decide +kernel)
theorem dmX13_unit_48 : decode cX13_unit 48 = .ok (.laload, 1) := dw_at cX13_unit_k2 (p := 0) rfl (by decide +kernel)
theorem dmX13_unit_49 : decode cX13_unit 49 = .ok (.invokestatic 647, 3) := dw_at cX13_unit_k2 (p := 1) rfl (by decide +kernel)
theorem dmX13_unit_52 : decode cX13_unit 52 = .ok (.lconst 1, 1) := dw_at cX13_unit_k2 (p := 4) rfl (by decide +kernel)
theorem dmX13_unit_53 : decode cX13_unit 53 = .ok (.lcmp, 1) := dw_at cX13_unit_k2 (p := 5) rfl (by decide +kernel)
theorem dmX13_unit_54 : decode cX13_unit 54 = .ok (.ifCond .ne 10, 3) := dw_at cX13_unit_k2 (p := 6) rfl (by decide +kernel)
theorem dmX13_unit_57 : decode cX13_unit 57 = .ok (.iload 5, 2) := dw_at cX13_unit_k2 (p := 9) rfl (by decide +kernel)
theorem dmX13_unit_59 : decode cX13_unit 59 = .ok (.istore_n 3, 1) := dw_at cX13_unit_k2 (p := 11) rfl (by decide +kernel)
theorem dmX13_unit_60 : decode cX13_unit 60 = .ok (.iload 6, 2) := dw_at cX13_unit_k2 (p := 12) rfl (by decide +kernel)
theorem dmX13_unit_62 : decode cX13_unit 62 = .ok (.istore 4, 2) := dw_at cX13_unit_k2 (p := 14) rfl (by decide +kernel)
theorem dmX13_unit_64 : decode cX13_unit 64 = .ok (.iinc 6 1, 3) := dw_at cX13_unit_k2 (p := 16) rfl (by decide +kernel)
theorem dmX13_unit_67 : decode cX13_unit 67 = .ok (.goto (-45), 3) := dw_at cX13_unit_k2 (p := 19) rfl (by decide +kernel)
theorem dmX13_unit_70 : decode cX13_unit 70 = .ok (.iinc 5 1, 3) := dw_at cX13_unit_k2 (p := 22) rfl (by decide +kernel)
theorem dmX13_unit_73 : decode cX13_unit 73 = .ok (.goto (-65), 3) := dw_at cX13_unit_k3 (p := 0) rfl (by decide +kernel)
theorem dmX13_unit_76 : decode cX13_unit 76 = .ok (.iload_n 3, 1) := dw_at cX13_unit_k3 (p := 3) rfl (by decide +kernel)
theorem dmX13_unit_77 : decode cX13_unit 77 = .ok (.iconst (-1), 1) := dw_at cX13_unit_k3 (p := 4) rfl (by decide +kernel)
theorem dmX13_unit_78 : decode cX13_unit 78 = .ok (.if_icmp .ne 5, 3) := dw_at cX13_unit_k3 (p := 5) rfl (by decide +kernel)
theorem dmX13_unit_81 : decode cX13_unit 81 = .ok (.iconst 0, 1) := dw_at cX13_unit_k3 (p := 8) rfl (by decide +kernel)
theorem dmX13_unit_82 : decode cX13_unit 82 = .ok (.ireturn, 1) := dw_at cX13_unit_k3 (p := 9) rfl (by decide +kernel)
theorem dmX13_unit_83 : decode cX13_unit 83 = .ok (.iconst 0, 1) := dw_at cX13_unit_k3 (p := 10) rfl (by decide +kernel)
theorem dmX13_unit_84 : decode cX13_unit 84 = .ok (.istore 5, 2) := dw_at cX13_unit_k3 (p := 11) rfl (by decide +kernel)
theorem dmX13_unit_86 : decode cX13_unit 86 = .ok (.iload 5, 2) := dw_at cX13_unit_k3 (p := 13) rfl (by decide +kernel)
theorem dmX13_unit_88 : decode cX13_unit 88 = .ok (.aload_n 0, 1) := dw_at cX13_unit_k3 (p := 15) rfl (by decide +kernel)
theorem dmX13_unit_89 : decode cX13_unit 89 = .ok (.getfield 626, 3) := dw_at cX13_unit_k3 (p := 16) rfl (by decide +kernel)
theorem dmX13_unit_92 : decode cX13_unit 92 = .ok (.if_icmp .ge 61, 3) := dw_at cX13_unit_k3 (p := 19) rfl (by decide +kernel)
theorem dmX13_unit_95 : decode cX13_unit 95 = .ok (.aload_n 0, 1) := dw_at cX13_unit_k3 (p := 22) rfl (by decide +kernel)
theorem dmX13_unit_96 : decode cX13_unit 96 = .ok (.getfield 247, 3) := dw_at cX13_unit_k3 (p := 23) rfl (by decide +kernel)
theorem dmX13_unit_99 : decode cX13_unit 99 = .ok (.bipush 24, 2) := dw_at cX13_unit_k4 (p := 0) rfl (by decide +kernel)
theorem dmX13_unit_101 : decode cX13_unit 101 = .ok (.iload_n 3, 1) := dw_at cX13_unit_k4 (p := 2) rfl (by decide +kernel)
theorem dmX13_unit_102 : decode cX13_unit 102 = .ok (.imul, 1) := dw_at cX13_unit_k4 (p := 3) rfl (by decide +kernel)
theorem dmX13_unit_103 : decode cX13_unit 103 = .ok (.iload 5, 2) := dw_at cX13_unit_k4 (p := 4) rfl (by decide +kernel)
theorem dmX13_unit_105 : decode cX13_unit 105 = .ok (.iadd, 1) := dw_at cX13_unit_k4 (p := 6) rfl (by decide +kernel)
theorem dmX13_unit_106 : decode cX13_unit 106 = .ok (.laload, 1) := dw_at cX13_unit_k4 (p := 7) rfl (by decide +kernel)
theorem dmX13_unit_107 : decode cX13_unit 107 = .ok (.lstore 6, 2) := dw_at cX13_unit_k4 (p := 8) rfl (by decide +kernel)
theorem dmX13_unit_109 : decode cX13_unit 109 = .ok (.aload_n 0, 1) := dw_at cX13_unit_k4 (p := 10) rfl (by decide +kernel)
theorem dmX13_unit_110 : decode cX13_unit 110 = .ok (.getfield 247, 3) := dw_at cX13_unit_k4 (p := 11) rfl (by decide +kernel)
theorem dmX13_unit_113 : decode cX13_unit 113 = .ok (.bipush 24, 2) := dw_at cX13_unit_k4 (p := 14) rfl (by decide +kernel)
theorem dmX13_unit_115 : decode cX13_unit 115 = .ok (.iload_n 3, 1) := dw_at cX13_unit_k4 (p := 16) rfl (by decide +kernel)
theorem dmX13_unit_116 : decode cX13_unit 116 = .ok (.imul, 1) := dw_at cX13_unit_k4 (p := 17) rfl (by decide +kernel)
theorem dmX13_unit_117 : decode cX13_unit 117 = .ok (.iload 5, 2) := dw_at cX13_unit_k4 (p := 18) rfl (by decide +kernel)
theorem dmX13_unit_119 : decode cX13_unit 119 = .ok (.iadd, 1) := dw_at cX13_unit_k4 (p := 20) rfl (by decide +kernel)
theorem dmX13_unit_120 : decode cX13_unit 120 = .ok (.aload_n 0, 1) := dw_at cX13_unit_k4 (p := 21) rfl (by decide +kernel)
theorem dmX13_unit_121 : decode cX13_unit 121 = .ok (.getfield 247, 3) := dw_at cX13_unit_k4 (p := 22) rfl (by decide +kernel)
theorem dmX13_unit_124 : decode cX13_unit 124 = .ok (.bipush 24, 2) := dw_at cX13_unit_k5 (p := 0) rfl (by decide +kernel)
theorem dmX13_unit_126 : decode cX13_unit 126 = .ok (.iload_n 1, 1) := dw_at cX13_unit_k5 (p := 2) rfl (by decide +kernel)
theorem dmX13_unit_127 : decode cX13_unit 127 = .ok (.imul, 1) := dw_at cX13_unit_k5 (p := 3) rfl (by decide +kernel)
theorem dmX13_unit_128 : decode cX13_unit 128 = .ok (.iload 5, 2) := dw_at cX13_unit_k5 (p := 4) rfl (by decide +kernel)
theorem dmX13_unit_130 : decode cX13_unit 130 = .ok (.iadd, 1) := dw_at cX13_unit_k5 (p := 6) rfl (by decide +kernel)
theorem dmX13_unit_131 : decode cX13_unit 131 = .ok (.laload, 1) := dw_at cX13_unit_k5 (p := 7) rfl (by decide +kernel)
theorem dmX13_unit_132 : decode cX13_unit 132 = .ok (.lastore, 1) := dw_at cX13_unit_k5 (p := 8) rfl (by decide +kernel)
theorem dmX13_unit_133 : decode cX13_unit 133 = .ok (.aload_n 0, 1) := dw_at cX13_unit_k5 (p := 9) rfl (by decide +kernel)
theorem dmX13_unit_134 : decode cX13_unit 134 = .ok (.getfield 247, 3) := dw_at cX13_unit_k5 (p := 10) rfl (by decide +kernel)
theorem dmX13_unit_137 : decode cX13_unit 137 = .ok (.bipush 24, 2) := dw_at cX13_unit_k5 (p := 13) rfl (by decide +kernel)
theorem dmX13_unit_139 : decode cX13_unit 139 = .ok (.iload_n 1, 1) := dw_at cX13_unit_k5 (p := 15) rfl (by decide +kernel)
theorem dmX13_unit_140 : decode cX13_unit 140 = .ok (.imul, 1) := dw_at cX13_unit_k5 (p := 16) rfl (by decide +kernel)
theorem dmX13_unit_141 : decode cX13_unit 141 = .ok (.iload 5, 2) := dw_at cX13_unit_k5 (p := 17) rfl (by decide +kernel)
theorem dmX13_unit_143 : decode cX13_unit 143 = .ok (.iadd, 1) := dw_at cX13_unit_k5 (p := 19) rfl (by decide +kernel)
theorem dmX13_unit_144 : decode cX13_unit 144 = .ok (.lload 6, 2) := dw_at cX13_unit_k5 (p := 20) rfl (by decide +kernel)
theorem dmX13_unit_146 : decode cX13_unit 146 = .ok (.lastore, 1) := dw_at cX13_unit_k5 (p := 22) rfl (by decide +kernel)
theorem dmX13_unit_147 : decode cX13_unit 147 = .ok (.iinc 5 1, 3) := dw_at cX13_unit_k5 (p := 23) rfl (by decide +kernel)
theorem dmX13_unit_150 : decode cX13_unit 150 = .ok (.goto (-64), 3) := dw_at cX13_unit_k6 (p := 0) rfl (by decide +kernel)
theorem dmX13_unit_153 : decode cX13_unit 153 = .ok (.iconst 0, 1) := dw_at cX13_unit_k6 (p := 3) rfl (by decide +kernel)
theorem dmX13_unit_154 : decode cX13_unit 154 = .ok (.istore 5, 2) := dw_at cX13_unit_k6 (p := 4) rfl (by decide +kernel)
theorem dmX13_unit_156 : decode cX13_unit 156 = .ok (.iload 5, 2) := dw_at cX13_unit_k6 (p := 6) rfl (by decide +kernel)
theorem dmX13_unit_158 : decode cX13_unit 158 = .ok (.iload_n 2, 1) := dw_at cX13_unit_k6 (p := 8) rfl (by decide +kernel)
theorem dmX13_unit_159 : decode cX13_unit 159 = .ok (.if_icmp .ge 63, 3) := dw_at cX13_unit_k6 (p := 9) rfl (by decide +kernel)
theorem dmX13_unit_162 : decode cX13_unit 162 = .ok (.aload_n 0, 1) := dw_at cX13_unit_k6 (p := 12) rfl (by decide +kernel)
theorem dmX13_unit_163 : decode cX13_unit 163 = .ok (.getfield 247, 3) := dw_at cX13_unit_k6 (p := 13) rfl (by decide +kernel)
theorem dmX13_unit_166 : decode cX13_unit 166 = .ok (.bipush 24, 2) := dw_at cX13_unit_k6 (p := 16) rfl (by decide +kernel)
theorem dmX13_unit_168 : decode cX13_unit 168 = .ok (.iload 5, 2) := dw_at cX13_unit_k6 (p := 18) rfl (by decide +kernel)
theorem dmX13_unit_170 : decode cX13_unit 170 = .ok (.imul, 1) := dw_at cX13_unit_k6 (p := 20) rfl (by decide +kernel)
theorem dmX13_unit_171 : decode cX13_unit 171 = .ok (.iload 4, 2) := dw_at cX13_unit_k6 (p := 21) rfl (by decide +kernel)
theorem dmX13_unit_173 : decode cX13_unit 173 = .ok (.iadd, 1) := dw_at cX13_unit_k6 (p := 23) rfl (by decide +kernel)
theorem dmX13_unit_174 : decode cX13_unit 174 = .ok (.laload, 1) := dw_at cX13_unit_k7 (p := 0) rfl (by decide +kernel)
theorem dmX13_unit_175 : decode cX13_unit 175 = .ok (.lstore 6, 2) := dw_at cX13_unit_k7 (p := 1) rfl (by decide +kernel)
theorem dmX13_unit_177 : decode cX13_unit 177 = .ok (.aload_n 0, 1) := dw_at cX13_unit_k7 (p := 3) rfl (by decide +kernel)
theorem dmX13_unit_178 : decode cX13_unit 178 = .ok (.getfield 247, 3) := dw_at cX13_unit_k7 (p := 4) rfl (by decide +kernel)
theorem dmX13_unit_181 : decode cX13_unit 181 = .ok (.bipush 24, 2) := dw_at cX13_unit_k7 (p := 7) rfl (by decide +kernel)
theorem dmX13_unit_183 : decode cX13_unit 183 = .ok (.iload 5, 2) := dw_at cX13_unit_k7 (p := 9) rfl (by decide +kernel)
theorem dmX13_unit_185 : decode cX13_unit 185 = .ok (.imul, 1) := dw_at cX13_unit_k7 (p := 11) rfl (by decide +kernel)
theorem dmX13_unit_186 : decode cX13_unit 186 = .ok (.iload 4, 2) := dw_at cX13_unit_k7 (p := 12) rfl (by decide +kernel)
theorem dmX13_unit_188 : decode cX13_unit 188 = .ok (.iadd, 1) := dw_at cX13_unit_k7 (p := 14) rfl (by decide +kernel)
theorem dmX13_unit_189 : decode cX13_unit 189 = .ok (.aload_n 0, 1) := dw_at cX13_unit_k7 (p := 15) rfl (by decide +kernel)
theorem dmX13_unit_190 : decode cX13_unit 190 = .ok (.getfield 247, 3) := dw_at cX13_unit_k7 (p := 16) rfl (by decide +kernel)
theorem dmX13_unit_193 : decode cX13_unit 193 = .ok (.bipush 24, 2) := dw_at cX13_unit_k7 (p := 19) rfl (by decide +kernel)
theorem dmX13_unit_195 : decode cX13_unit 195 = .ok (.iload 5, 2) := dw_at cX13_unit_k7 (p := 21) rfl (by decide +kernel)
theorem dmX13_unit_197 : decode cX13_unit 197 = .ok (.imul, 1) := dw_at cX13_unit_k7 (p := 23) rfl (by decide +kernel)
theorem dmX13_unit_198 : decode cX13_unit 198 = .ok (.iload_n 1, 1) := dw_at cX13_unit_k8 (p := 0) rfl (by decide +kernel)
theorem dmX13_unit_199 : decode cX13_unit 199 = .ok (.iadd, 1) := dw_at cX13_unit_k8 (p := 1) rfl (by decide +kernel)
theorem dmX13_unit_200 : decode cX13_unit 200 = .ok (.laload, 1) := dw_at cX13_unit_k8 (p := 2) rfl (by decide +kernel)
theorem dmX13_unit_201 : decode cX13_unit 201 = .ok (.lastore, 1) := dw_at cX13_unit_k8 (p := 3) rfl (by decide +kernel)
theorem dmX13_unit_202 : decode cX13_unit 202 = .ok (.aload_n 0, 1) := dw_at cX13_unit_k8 (p := 4) rfl (by decide +kernel)
theorem dmX13_unit_203 : decode cX13_unit 203 = .ok (.getfield 247, 3) := dw_at cX13_unit_k8 (p := 5) rfl (by decide +kernel)
theorem dmX13_unit_206 : decode cX13_unit 206 = .ok (.bipush 24, 2) := dw_at cX13_unit_k8 (p := 8) rfl (by decide +kernel)
theorem dmX13_unit_208 : decode cX13_unit 208 = .ok (.iload 5, 2) := dw_at cX13_unit_k8 (p := 10) rfl (by decide +kernel)
theorem dmX13_unit_210 : decode cX13_unit 210 = .ok (.imul, 1) := dw_at cX13_unit_k8 (p := 12) rfl (by decide +kernel)
theorem dmX13_unit_211 : decode cX13_unit 211 = .ok (.iload_n 1, 1) := dw_at cX13_unit_k8 (p := 13) rfl (by decide +kernel)
theorem dmX13_unit_212 : decode cX13_unit 212 = .ok (.iadd, 1) := dw_at cX13_unit_k8 (p := 14) rfl (by decide +kernel)
theorem dmX13_unit_213 : decode cX13_unit 213 = .ok (.lload 6, 2) := dw_at cX13_unit_k8 (p := 15) rfl (by decide +kernel)
theorem dmX13_unit_215 : decode cX13_unit 215 = .ok (.lastore, 1) := dw_at cX13_unit_k8 (p := 17) rfl (by decide +kernel)
theorem dmX13_unit_216 : decode cX13_unit 216 = .ok (.iinc 5 1, 3) := dw_at cX13_unit_k8 (p := 18) rfl (by decide +kernel)
theorem dmX13_unit_219 : decode cX13_unit 219 = .ok (.goto (-63), 3) := dw_at cX13_unit_k8 (p := 21) rfl (by decide +kernel)
theorem dmX13_unit_222 : decode cX13_unit 222 = .ok (.iconst 1, 1) := dw_at cX13_unit_k8 (p := 24) rfl (by decide +kernel)
theorem dmX13_unit_223 : decode cX13_unit 223 = .ok (.ireturn, 1) := dw_at cX13_unit_k8 (p := 25) rfl (by decide +kernel)
def qm_X13_unit_0 (K : Nat) (go : Nat → Int32 → Int32 → Int32 → Int32 → Int32 → Int32 → ow_MS → Option (Int32 × ow_MS)) (x1 : Int32) (x2 : Int32) (x3 : Int32) (x4 : Int32) (x5 : Int32) (x6 : Int32) (z : ow_MS) : Option (Int32 × ow_MS) :=
 go 1 x1 x2 (-1) (-1) x1 0 z
def qm_X13_unit_1 (K : Nat) (go : Nat → Int32 → Int32 → Int32 → Int32 → Int32 → Int32 → ow_MS → Option (Int32 × ow_MS)) (x1 : Int32) (x2 : Int32) (x3 : Int32) (x4 : Int32) (x5 : Int32) (x6 : Int32) (z : ow_MS) : Option (Int32 × ow_MS) :=
 (if x2 ≤ x5 then go 5 x1 x2 x3 x4 x5 0 z
 else (if x3 = (-1) then go 2 x1 x2 x3 x4 x5 x1 z
 else go 5 x1 x2 x3 x4 x5 0 z))
def qm_X13_unit_2 (K : Nat) (go : Nat → Int32 → Int32 → Int32 → Int32 → Int32 → Int32 → ow_MS → Option (Int32 × ow_MS)) (x1 : Int32) (x2 : Int32) (x3 : Int32) (x4 : Int32) (x5 : Int32) (x6 : Int32) (z : ow_MS) : Option (Int32 × ow_MS) :=
 rdF z 58 fun v1 => (if v1 ≤ x6 then go 4 x1 x2 x3 x4 x5 x6 z
 else (if x3 = (-1) then rdJ mX z 64 ((24 * x5) + x6) fun v2 => (if (lg_cmp (if 0 < v2 then v2 else -v2) 1) = 0 then go 3 x1 x2 x5 x6 x5 x6 z
 else go 3 x1 x2 x3 x4 x5 x6 z)
 else go 4 x1 x2 x3 x4 x5 x6 z))
def qm_X13_unit_3 (K : Nat) (go : Nat → Int32 → Int32 → Int32 → Int32 → Int32 → Int32 → ow_MS → Option (Int32 × ow_MS)) (x1 : Int32) (x2 : Int32) (x3 : Int32) (x4 : Int32) (x5 : Int32) (x6 : Int32) (z : ow_MS) : Option (Int32 × ow_MS) :=
 go 2 x1 x2 x3 x4 x5 (x6 + 1) z
def qm_X13_unit_4 (K : Nat) (go : Nat → Int32 → Int32 → Int32 → Int32 → Int32 → Int32 → ow_MS → Option (Int32 × ow_MS)) (x1 : Int32) (x2 : Int32) (x3 : Int32) (x4 : Int32) (x5 : Int32) (x6 : Int32) (z : ow_MS) : Option (Int32 × ow_MS) :=
 go 1 x1 x2 x3 x4 (x5 + 1) 0 z
def qm_X13_unit_5 (K : Nat) (go : Nat → Int32 → Int32 → Int32 → Int32 → Int32 → Int32 → ow_MS → Option (Int32 × ow_MS)) (x1 : Int32) (x2 : Int32) (x3 : Int32) (x4 : Int32) (x5 : Int32) (x6 : Int32) (z : ow_MS) : Option (Int32 × ow_MS) :=
 (if x3 = (-1) then okZ 0 (some (0, z))
 else go 6 x1 x2 x3 x4 0 0 z)
def qm_X13_unit_6 (K : Nat) (go : Nat → Int32 → Int32 → Int32 → Int32 → Int32 → Int32 → ow_MS → Option (Int32 × ow_MS)) (x1 : Int32) (x2 : Int32) (x3 : Int32) (x4 : Int32) (x5 : Int32) (x6 : Int32) (z : ow_MS) : Option (Int32 × ow_MS) :=
 rdF z 58 fun v3 => (if v3 ≤ x5 then go 7 x1 x2 x3 x4 0 0 z
 else rdJ mX z 64 ((24 * x3) + x5) fun v4 => rdJ mX z 64 ((24 * x1) + x5) fun v5 => wrJ mX z 64 ((24 * x3) + x5) v5 fun z6 => wrJ mX z6 64 ((24 * x1) + x5) v4 fun z7 => go 6 x1 x2 x3 x4 (x5 + 1) 0 z7)
def qm_X13_unit_7 (K : Nat) (go : Nat → Int32 → Int32 → Int32 → Int32 → Int32 → Int32 → ow_MS → Option (Int32 × ow_MS)) (x1 : Int32) (x2 : Int32) (x3 : Int32) (x4 : Int32) (x5 : Int32) (x6 : Int32) (z : ow_MS) : Option (Int32 × ow_MS) :=
 (if x2 ≤ x5 then okZ 1 (some (1, z))
 else rdJ mX z 64 ((24 * x5) + x4) fun v8 => rdJ mX z 64 ((24 * x5) + x1) fun v9 => wrJ mX z 64 ((24 * x5) + x4) v9 fun z10 => wrJ mX z10 64 ((24 * x5) + x1) v8 fun z11 => go 7 x1 x2 x3 x4 (x5 + 1) 0 z11)
def qb_X13_unit (K : Nat) (go : Nat → Int32 → Int32 → Int32 → Int32 → Int32 → Int32 → ow_MS → Option (Int32 × ow_MS)) (L : Nat) (x1 : Int32) (x2 : Int32) (x3 : Int32) (x4 : Int32) (x5 : Int32) (x6 : Int32) (z : ow_MS) : Option (Int32 × ow_MS) := match L with
  | 0 => qm_X13_unit_0 K go x1 x2 x3 x4 x5 x6 z
  | 1 => qm_X13_unit_1 K go x1 x2 x3 x4 x5 x6 z
  | 2 => qm_X13_unit_2 K go x1 x2 x3 x4 x5 x6 z
  | 3 => qm_X13_unit_3 K go x1 x2 x3 x4 x5 x6 z
  | 4 => qm_X13_unit_4 K go x1 x2 x3 x4 x5 x6 z
  | 5 => qm_X13_unit_5 K go x1 x2 x3 x4 x5 x6 z
  | 6 => qm_X13_unit_6 K go x1 x2 x3 x4 x5 x6 z
  | 7 => qm_X13_unit_7 K go x1 x2 x3 x4 x5 x6 z
  | _ => none
def q_X13_unit (K : Nat) : Nat → Nat → Int32 → Int32 → Int32 → Int32 → Int32 → Int32 → ow_MS → Option (Int32 × ow_MS)
  | 0 => fun _ _ _ _ _ _ _ _ => none
  | k + 1 => qb_X13_unit K (q_X13_unit K k)
def qe_X13_unit (K : Nat) (x1 : Int32) (x2 : Int32) (z : ow_MS) : Option (Int32 × ow_MS) := q_X13_unit K K 0 x1 x2 0 0 0 0 z
abbrev wm_X13_unit : List Cond := .code yX13_unit cX13_unit 8 (some .boolean) :: wM
theorem cd_X13_unit : yX13_unit.cls = RX13 ∧ yX13_unit.cls ≠ "java/lang/invoke/MethodHandle" ∧ yX13_unit.cls ≠ "java/lang/invoke/VarHandle" ∧ (parseMethodDescriptor yX13_unit.desc).map (fun d => d.parameters.length) = some 2 := by decide +kernel
set_option maxHeartbeats 4000000 in
set_option maxRecDepth 100000 in
theorem km_X13_unit (l : Launch) (D : va_G) (q : ow_Q5) (u : Nat → Nat) (hU : tw_inj mX u) (K : Nat) (x1 : Int32) (x2 : Int32)  (z z1 : ow_MS) (r : Int32) (hq : qe_X13_unit K x1 x2 z = some (r, z1)) : Met l yX13_unit wm_X13_unit ({ frames := 1, cells := 0, slots := 0, locals := 29 } : Room) (va_Pc [.ref (u 0), .int x1, .int x2] (mw_pre D q u z)) (va_Qi (fun x (_ : Unit) => x = r) (fun _ t => va_P D vwCl (tw mX q u z1) t.heap) (tw_A mX u)) 0 0 (tw_A mX u) := by
  refine Met.ofW (cc := cX13_unit) (maxL := 8) (ret := (some .boolean)) (by decide) rfl ?_
  intro p e s m args below meth c s₁ B hml hv
  obtain ⟨rfl, hP, hK, hN⟩ := hv
  have hx := B.exec
  have hb := B.bytes
  have hr := B.returns
  have hts := atoms_spec (ws := wm_X13_unit) B.pre
  have hT : ∀ w ∈ wM, w.before ([.ref (u 0), .int x1, .int x2] : List Value).toArray s = true := fun w h => hts w (List.mem_cons_of_mem _ h)
  have hown : s.vm.findClass RX13 = some m.cls := findClass_of_methodNamed B.named
  have hlocks := B.notSynchronized
  have hM : tw_M D vwCl mX q s.heap u z s.heap [] := ⟨hP, va_S.rf⟩
  have hl := lv_entry ([.ref (u 0), .int x1, .int x2]) (n := 8) (Nat.le_of_ble_eq_true rfl)
  rw [lg_entry_eq]
  generalize (lg_sl ([.ref (u 0), .int x1, .int x2]) ++ List.replicate (8 - (lg_sl ([.ref (u 0), .int x1, .int x2])).length) Slot.unset).toArray = ls at hl ⊢
  have hl : lv_has ls 8 [(0, .ref (u 0)), (1, .int x1), (2, .int x2)] := hl
  refine ow_named (fun QQ hQQ => ?_)
  generalize ([.ref (u 0), .int x1, .int x2] : List Value).toArray = args at hts hT hQQ ⊢
  have key : ∀ k : Nat, (∀ (x1 : Int32) (x2 : Int32) (x3 : Int32) (x4 : Int32) (x5 : Int32) (x6 : Int32) (z : ow_MS) (H : Heap) (locs : List Loc) (ls : Array Slot), tw_M D vwCl mX q s.heap u z H locs → lv_has ls 8 [(0, .ref (u 0)), (1, .int x1), (2, .int x2)] → q_X13_unit K k 0 x1 x2 x3 x4 x5 x6 z = some (r, z1) → W p l e ({ frames := 1, cells := 0, slots := 0, locals := 29 } : Room) s m args below meth c H locs 0 0 QQ (F0 m 0 ls [])) ∧ (∀ (x1 : Int32) (x2 : Int32) (x3 : Int32) (x4 : Int32) (x5 : Int32) (x6 : Int32) (z : ow_MS) (H : Heap) (locs : List Loc) (ls : Array Slot), tw_M D vwCl mX q s.heap u z H locs → lv_has ls 8 [(0, .ref (u 0)), (1, .int x1), (2, .int x2), (3, .int x3), (4, .int x4), (5, .int x5)] → q_X13_unit K k 1 x1 x2 x3 x4 x5 x6 z = some (r, z1) → W p l e ({ frames := 1, cells := 0, slots := 0, locals := 29 } : Room) s m args below meth c H locs 0 0 QQ (F0 m 8 ls [])) ∧ (∀ (x1 : Int32) (x2 : Int32) (x3 : Int32) (x4 : Int32) (x5 : Int32) (x6 : Int32) (z : ow_MS) (H : Heap) (locs : List Loc) (ls : Array Slot), tw_M D vwCl mX q s.heap u z H locs → lv_has ls 8 [(0, .ref (u 0)), (1, .int x1), (2, .int x2), (3, .int x3), (4, .int x4), (5, .int x5), (6, .int x6)] → q_X13_unit K k 2 x1 x2 x3 x4 x5 x6 z = some (r, z1) → W p l e ({ frames := 1, cells := 0, slots := 0, locals := 29 } : Room) s m args below meth c H locs 0 0 QQ (F0 m 22 ls [])) ∧ (∀ (x1 : Int32) (x2 : Int32) (x3 : Int32) (x4 : Int32) (x5 : Int32) (x6 : Int32) (z : ow_MS) (H : Heap) (locs : List Loc) (ls : Array Slot), tw_M D vwCl mX q s.heap u z H locs → lv_has ls 8 [(0, .ref (u 0)), (1, .int x1), (2, .int x2), (3, .int x3), (4, .int x4), (5, .int x5), (6, .int x6)] → q_X13_unit K k 3 x1 x2 x3 x4 x5 x6 z = some (r, z1) → W p l e ({ frames := 1, cells := 0, slots := 0, locals := 29 } : Room) s m args below meth c H locs 0 0 QQ (F0 m 64 ls [])) ∧ (∀ (x1 : Int32) (x2 : Int32) (x3 : Int32) (x4 : Int32) (x5 : Int32) (x6 : Int32) (z : ow_MS) (H : Heap) (locs : List Loc) (ls : Array Slot), tw_M D vwCl mX q s.heap u z H locs → lv_has ls 8 [(0, .ref (u 0)), (1, .int x1), (2, .int x2), (3, .int x3), (4, .int x4), (5, .int x5), (6, .int x6)] → q_X13_unit K k 4 x1 x2 x3 x4 x5 x6 z = some (r, z1) → W p l e ({ frames := 1, cells := 0, slots := 0, locals := 29 } : Room) s m args below meth c H locs 0 0 QQ (F0 m 70 ls [])) ∧ (∀ (x1 : Int32) (x2 : Int32) (x3 : Int32) (x4 : Int32) (x5 : Int32) (x6 : Int32) (z : ow_MS) (H : Heap) (locs : List Loc) (ls : Array Slot), tw_M D vwCl mX q s.heap u z H locs → lv_has ls 8 [(0, .ref (u 0)), (1, .int x1), (2, .int x2), (3, .int x3), (4, .int x4), (5, .int x5)] → q_X13_unit K k 5 x1 x2 x3 x4 x5 x6 z = some (r, z1) → W p l e ({ frames := 1, cells := 0, slots := 0, locals := 29 } : Room) s m args below meth c H locs 0 0 QQ (F0 m 76 ls [])) ∧ (∀ (x1 : Int32) (x2 : Int32) (x3 : Int32) (x4 : Int32) (x5 : Int32) (x6 : Int32) (z : ow_MS) (H : Heap) (locs : List Loc) (ls : Array Slot), tw_M D vwCl mX q s.heap u z H locs → lv_has ls 8 [(0, .ref (u 0)), (1, .int x1), (2, .int x2), (3, .int x3), (4, .int x4), (5, .int x5)] → q_X13_unit K k 6 x1 x2 x3 x4 x5 x6 z = some (r, z1) → W p l e ({ frames := 1, cells := 0, slots := 0, locals := 29 } : Room) s m args below meth c H locs 0 0 QQ (F0 m 86 ls [])) ∧ (∀ (x1 : Int32) (x2 : Int32) (x3 : Int32) (x4 : Int32) (x5 : Int32) (x6 : Int32) (z : ow_MS) (H : Heap) (locs : List Loc) (ls : Array Slot), tw_M D vwCl mX q s.heap u z H locs → lv_has ls 8 [(0, .ref (u 0)), (1, .int x1), (2, .int x2), (3, .int x3), (4, .int x4), (5, .int x5)] → q_X13_unit K k 7 x1 x2 x3 x4 x5 x6 z = some (r, z1) → W p l e ({ frames := 1, cells := 0, slots := 0, locals := 29 } : Room) s m args below meth c H locs 0 0 QQ (F0 m 156 ls [])) := by
    intro k
    induction k with
    | zero => exact ⟨fun _ _ _ _ _ _ _ _ _ _  _ _ hq => tw_no hq, fun _ _ _ _ _ _ _ _ _ _  _ _ hq => tw_no hq, fun _ _ _ _ _ _ _ _ _ _  _ _ hq => tw_no hq, fun _ _ _ _ _ _ _ _ _ _  _ _ hq => tw_no hq, fun _ _ _ _ _ _ _ _ _ _  _ _ hq => tw_no hq, fun _ _ _ _ _ _ _ _ _ _  _ _ hq => tw_no hq, fun _ _ _ _ _ _ _ _ _ _  _ _ hq => tw_no hq, fun _ _ _ _ _ _ _ _ _ _  _ _ hq => tw_no hq⟩
    | succ k ih =>
      obtain ⟨ih_0, ih_1, ih_2, ih_3, ih_4, ih_5, ih_6, ih_7⟩ := ih
      refine ⟨?_, ?_, ?_, ?_, ?_, ?_, ?_, ?_⟩
      · intro x1 x2 x3 x4 x5 x6 z H locs ls  hM hl hq
        have hq : qm_X13_unit_0 K (q_X13_unit K k) x1 x2 x3 x4 x5 x6 z = some (r, z1) := hq
        unfold qm_X13_unit_0 at hq
        refine lv_iconst (v := (-1)) hx hb dmX13_unit_0 (by decide) ?_
        refine lv_istore_n (lv' := [(3, .int (-1)), (0, .ref (u 0)), (1, .int x1), (2, .int x2)]) hx hb dmX13_unit_1 rfl hl (by decide) rfl (fun ls hl => ?_)
        refine lv_iconst (v := (-1)) hx hb dmX13_unit_2 (by decide) ?_
        refine lv_istore (lv' := [(4, .int (-1)), (3, .int (-1)), (0, .ref (u 0)), (1, .int x1), (2, .int x2)]) hx hb dmX13_unit_3 hl (by decide) rfl (fun ls hl => ?_)
        refine lv_iload_n hx hb dmX13_unit_5 rfl (lv_at hl 3 rfl) ?_
        refine lv_istore (lv' := [(5, .int x1), (4, .int (-1)), (3, .int (-1)), (0, .ref (u 0)), (1, .int x1), (2, .int x2)]) hx hb dmX13_unit_6 hl (by decide) rfl (fun ls hl => ?_)
        exact ih_1 x1 x2 (-1) (-1) x1 0 z H locs ls hM (lv_sub hl [3, 4, 5, 2, 1, 0] rfl) hq
      · intro x1 x2 x3 x4 x5 x6 z H locs ls  hM hl hq
        have hq : qm_X13_unit_1 K (q_X13_unit K k) x1 x2 x3 x4 x5 x6 z = some (r, z1) := hq
        unfold qm_X13_unit_1 at hq
        refine lv_iload hx hb dmX13_unit_8 (lv_at hl 5 rfl) ?_
        refine lv_iload_n hx hb dmX13_unit_10 rfl (lv_at hl 2 rfl) ?_
        refine lv_icmp_ge (tgt := 76) hx hb dmX13_unit_11 (by decide) (fun hc => ?_) (fun hc => ?_)
        · have hq := tw_it hq hc
          exact ih_5 x1 x2 x3 x4 x5 0 z H locs ls hM (lv_sub hl [0, 1, 2, 3, 4, 5] rfl) hq
        · have hq := tw_if hq hc
          refine lv_iload_n hx hb dmX13_unit_14 rfl (lv_at hl 3 rfl) ?_
          refine lv_iconst (v := (-1)) hx hb dmX13_unit_15 (by decide) ?_
          refine lv_icmp_ne (tgt := 76) hx hb dmX13_unit_16 (by decide) (fun hc => ?_) (fun hc => ?_)
          · have hq := tw_if hq hc
            exact ih_5 x1 x2 x3 x4 x5 0 z H locs ls hM (lv_sub hl [0, 1, 2, 3, 4, 5] rfl) hq
          · have hq := tw_it hq hc
            refine lv_iload_n hx hb dmX13_unit_19 rfl (lv_at hl 1 rfl) ?_
            refine lv_istore (lv' := [(6, .int x1), (0, .ref (u 0)), (1, .int x1), (2, .int x2), (3, .int x3), (4, .int x4), (5, .int x5)]) hx hb dmX13_unit_20 hl (by decide) rfl (fun ls hl => ?_)
            exact ih_2 x1 x2 x3 x4 x5 x1 z H locs ls hM (lv_sub hl [1, 2, 3, 4, 5, 6, 0] rfl) hq
      · intro x1 x2 x3 x4 x5 x6 z H locs ls  hM hl hq
        have hq : qm_X13_unit_2 K (q_X13_unit K k) x1 x2 x3 x4 x5 x6 z = some (r, z1) := hq
        unfold qm_X13_unit_2 at hq
        refine lv_iload hx hb dmX13_unit_22 (lv_at hl 6 rfl) ?_
        refine lv_aload_n hx hb dmX13_unit_24 rfl (lv_at hl 0 rfl) ?_
        refine mg13_626 hx hb hT hown hK hM hq dmX13_unit_25 (fun v1 hq => ?_)
        refine lv_icmp_ge (tgt := 70) hx hb dmX13_unit_28 (by decide) (fun hc => ?_) (fun hc => ?_)
        · have hq := tw_it hq hc
          exact ih_4 x1 x2 x3 x4 x5 x6 z H locs ls hM (lv_sub hl [0, 1, 2, 3, 4, 5, 6] rfl) hq
        · have hq := tw_if hq hc
          refine lv_iload_n hx hb dmX13_unit_31 rfl (lv_at hl 3 rfl) ?_
          refine lv_iconst (v := (-1)) hx hb dmX13_unit_32 (by decide) ?_
          refine lv_icmp_ne (tgt := 70) hx hb dmX13_unit_33 (by decide) (fun hc => ?_) (fun hc => ?_)
          · have hq := tw_if hq hc
            exact ih_4 x1 x2 x3 x4 x5 x6 z H locs ls hM (lv_sub hl [0, 1, 2, 3, 4, 5, 6] rfl) hq
          · have hq := tw_it hq hc
            refine lv_aload_n hx hb dmX13_unit_36 rfl (lv_at hl 0 rfl) ?_
            refine mg13_247 hx hb hT hown hK hM dmX13_unit_37 ?_
            refine lv_bipush (v := 24) hx hb dmX13_unit_40 (by decide) ?_
            refine lv_iload hx hb dmX13_unit_42 (lv_at hl 5 rfl) ?_
            refine lv_imul hx hb dmX13_unit_44 ?_
            refine lv_iload hx hb dmX13_unit_45 (lv_at hl 6 rfl) ?_
            refine lv_iadd hx hb dmX13_unit_47 ?_
            refine tw_lald mX_ok hx hb hK hM mr_64 hq dmX13_unit_48 (fun v2 hq => ?_)
            refine va_mabs_long hx hb (by rw [hml]; exact hl.1.symm) hown (hT _ wq_372) (hT _ wq_373) (hT _ wq_67) (hT _ wq_374) (Nat.le_of_ble_eq_true rfl) (Nat.le_of_ble_eq_true rfl) (Nat.le_of_ble_eq_true rfl) (Nat.le_of_ble_eq_true rfl) dmX13_unit_49 ?_
            refine lv_lconst (v := 1) hx hb dmX13_unit_52 rfl ?_
            refine W.lcmp hx hb dmX13_unit_53 ?_
            refine lv_if_ne (tgt := 64) hx hb dmX13_unit_54 (by decide) (fun hc => ?_) (fun hc => ?_)
            · have hq := tw_if hq hc
              exact ih_3 x1 x2 x3 x4 x5 x6 z H locs ls hM (lv_sub hl [0, 1, 2, 3, 4, 5, 6] rfl) hq
            · have hq := tw_it hq hc
              refine lv_iload hx hb dmX13_unit_57 (lv_at hl 5 rfl) ?_
              refine lv_istore_n (lv' := [(3, .int x5), (0, .ref (u 0)), (1, .int x1), (2, .int x2), (4, .int x4), (5, .int x5), (6, .int x6)]) hx hb dmX13_unit_59 rfl hl (by decide) rfl (fun ls hl => ?_)
              refine lv_iload hx hb dmX13_unit_60 (lv_at hl 6 rfl) ?_
              refine lv_istore (lv' := [(4, .int x6), (3, .int x5), (0, .ref (u 0)), (1, .int x1), (2, .int x2), (5, .int x5), (6, .int x6)]) hx hb dmX13_unit_62 hl (by decide) rfl (fun ls hl => ?_)
              exact ih_3 x1 x2 x5 x6 x5 x6 z H locs ls hM (lv_sub hl [2, 3, 4, 1, 0, 5, 6] rfl) hq
      · intro x1 x2 x3 x4 x5 x6 z H locs ls  hM hl hq
        have hq : qm_X13_unit_3 K (q_X13_unit K k) x1 x2 x3 x4 x5 x6 z = some (r, z1) := hq
        unfold qm_X13_unit_3 at hq
        refine lv_iinc (v := (x6 + 1)) (lv' := [(6, .int (x6 + 1)), (0, .ref (u 0)), (1, .int x1), (2, .int x2), (3, .int x3), (4, .int x4), (5, .int x5)]) hx hb dmX13_unit_64 hl (k := 6) rfl rfl (by decide) rfl (fun ls hl => ?_)
        refine lv_goto (tgt := 22) hx hb dmX13_unit_67 (by decide) ?_
        exact ih_2 x1 x2 x3 x4 x5 (x6 + 1) z H locs ls hM (lv_sub hl [1, 2, 3, 4, 5, 6, 0] rfl) hq
      · intro x1 x2 x3 x4 x5 x6 z H locs ls  hM hl hq
        have hq : qm_X13_unit_4 K (q_X13_unit K k) x1 x2 x3 x4 x5 x6 z = some (r, z1) := hq
        unfold qm_X13_unit_4 at hq
        refine lv_iinc (v := (x5 + 1)) (lv' := [(5, .int (x5 + 1)), (0, .ref (u 0)), (1, .int x1), (2, .int x2), (3, .int x3), (4, .int x4), (6, .int x6)]) hx hb dmX13_unit_70 hl (k := 5) rfl rfl (by decide) rfl (fun ls hl => ?_)
        refine lv_goto (tgt := 8) hx hb dmX13_unit_73 (by decide) ?_
        exact ih_1 x1 x2 x3 x4 (x5 + 1) 0 z H locs ls hM (lv_sub hl [1, 2, 3, 4, 5, 0] rfl) hq
      · intro x1 x2 x3 x4 x5 x6 z H locs ls  hM hl hq
        have hq : qm_X13_unit_5 K (q_X13_unit K k) x1 x2 x3 x4 x5 x6 z = some (r, z1) := hq
        unfold qm_X13_unit_5 at hq
        refine lv_iload_n hx hb dmX13_unit_76 rfl (lv_at hl 3 rfl) ?_
        refine lv_iconst (v := (-1)) hx hb dmX13_unit_77 (by decide) ?_
        refine lv_icmp_ne (tgt := 83) hx hb dmX13_unit_78 (by decide) (fun hc => ?_) (fun hc => ?_)
        · have hq := tw_if hq hc
          refine lv_iconst (v := 0) hx hb dmX13_unit_83 (by decide) ?_
          refine lv_istore (lv' := [(5, .int 0), (0, .ref (u 0)), (1, .int x1), (2, .int x2), (3, .int x3), (4, .int x4)]) hx hb dmX13_unit_84 hl (by decide) rfl (fun ls hl => ?_)
          exact ih_6 x1 x2 x3 x4 0 0 z H locs ls hM (lv_sub hl [1, 2, 3, 4, 5, 0] rfl) hq
        · have hq := tw_it hq hc
          refine lv_iconst (v := 0) hx hb dmX13_unit_81 (by decide) ?_
          obtain ⟨hz, hq⟩ := tw_gZ hq
          exact mw_zret hx hb hr hlocks hM hz hq hQQ dmX13_unit_82
      · intro x1 x2 x3 x4 x5 x6 z H locs ls  hM hl hq
        have hq : qm_X13_unit_6 K (q_X13_unit K k) x1 x2 x3 x4 x5 x6 z = some (r, z1) := hq
        unfold qm_X13_unit_6 at hq
        refine lv_iload hx hb dmX13_unit_86 (lv_at hl 5 rfl) ?_
        refine lv_aload_n hx hb dmX13_unit_88 rfl (lv_at hl 0 rfl) ?_
        refine mg13_626 hx hb hT hown hK hM hq dmX13_unit_89 (fun v3 hq => ?_)
        refine lv_icmp_ge (tgt := 153) hx hb dmX13_unit_92 (by decide) (fun hc => ?_) (fun hc => ?_)
        · have hq := tw_it hq hc
          refine lv_iconst (v := 0) hx hb dmX13_unit_153 (by decide) ?_
          refine lv_istore (lv' := [(5, .int 0), (0, .ref (u 0)), (1, .int x1), (2, .int x2), (3, .int x3), (4, .int x4)]) hx hb dmX13_unit_154 hl (by decide) rfl (fun ls hl => ?_)
          exact ih_7 x1 x2 x3 x4 0 0 z H locs ls hM (lv_sub hl [1, 2, 3, 4, 5, 0] rfl) hq
        · have hq := tw_if hq hc
          refine lv_aload_n hx hb dmX13_unit_95 rfl (lv_at hl 0 rfl) ?_
          refine mg13_247 hx hb hT hown hK hM dmX13_unit_96 ?_
          refine lv_bipush (v := 24) hx hb dmX13_unit_99 (by decide) ?_
          refine lv_iload_n hx hb dmX13_unit_101 rfl (lv_at hl 3 rfl) ?_
          refine lv_imul hx hb dmX13_unit_102 ?_
          refine lv_iload hx hb dmX13_unit_103 (lv_at hl 5 rfl) ?_
          refine lv_iadd hx hb dmX13_unit_105 ?_
          refine tw_lald mX_ok hx hb hK hM mr_64 hq dmX13_unit_106 (fun v4 hq => ?_)
          refine lv_lstore (lv' := [(6, .long v4), (0, .ref (u 0)), (1, .int x1), (2, .int x2), (3, .int x3), (4, .int x4), (5, .int x5)]) hx hb dmX13_unit_107 hl (by decide) rfl (fun ls hl => ?_)
          refine lv_aload_n hx hb dmX13_unit_109 rfl (lv_at hl 1 rfl) ?_
          refine mg13_247 hx hb hT hown hK hM dmX13_unit_110 ?_
          refine lv_bipush (v := 24) hx hb dmX13_unit_113 (by decide) ?_
          refine lv_iload_n hx hb dmX13_unit_115 rfl (lv_at hl 4 rfl) ?_
          refine lv_imul hx hb dmX13_unit_116 ?_
          refine lv_iload hx hb dmX13_unit_117 (lv_at hl 6 rfl) ?_
          refine lv_iadd hx hb dmX13_unit_119 ?_
          refine lv_aload_n hx hb dmX13_unit_120 rfl (lv_at hl 1 rfl) ?_
          refine mg13_247 hx hb hT hown hK hM dmX13_unit_121 ?_
          refine lv_bipush (v := 24) hx hb dmX13_unit_124 (by decide) ?_
          refine lv_iload_n hx hb dmX13_unit_126 rfl (lv_at hl 2 rfl) ?_
          refine lv_imul hx hb dmX13_unit_127 ?_
          refine lv_iload hx hb dmX13_unit_128 (lv_at hl 6 rfl) ?_
          refine lv_iadd hx hb dmX13_unit_130 ?_
          refine tw_lald mX_ok hx hb hK hM mr_64 hq dmX13_unit_131 (fun v5 hq => ?_)
          refine tw_last mX_ok hU hx hb hK hM mr_64 hq dmX13_unit_132 (fun z6 H locs hM hq => ?_)
          refine lv_aload_n hx hb dmX13_unit_133 rfl (lv_at hl 1 rfl) ?_
          refine mg13_247 hx hb hT hown hK hM dmX13_unit_134 ?_
          refine lv_bipush (v := 24) hx hb dmX13_unit_137 (by decide) ?_
          refine lv_iload_n hx hb dmX13_unit_139 rfl (lv_at hl 2 rfl) ?_
          refine lv_imul hx hb dmX13_unit_140 ?_
          refine lv_iload hx hb dmX13_unit_141 (lv_at hl 6 rfl) ?_
          refine lv_iadd hx hb dmX13_unit_143 ?_
          refine lv_lload hx hb dmX13_unit_144 (lv_at hl 0 rfl) ?_
          refine tw_last mX_ok hU hx hb hK hM mr_64 hq dmX13_unit_146 (fun z7 H locs hM hq => ?_)
          refine lv_iinc (v := (x5 + 1)) (lv' := [(5, .int (x5 + 1)), (6, .long v4), (0, .ref (u 0)), (1, .int x1), (2, .int x2), (3, .int x3), (4, .int x4)]) hx hb dmX13_unit_147 hl (k := 6) rfl rfl (by decide) rfl (fun ls hl => ?_)
          refine lv_goto (tgt := 86) hx hb dmX13_unit_150 (by decide) ?_
          exact ih_6 x1 x2 x3 x4 (x5 + 1) 0 z7 H locs ls hM (lv_sub hl [2, 3, 4, 5, 6, 0] rfl) hq
      · intro x1 x2 x3 x4 x5 x6 z H locs ls  hM hl hq
        have hq : qm_X13_unit_7 K (q_X13_unit K k) x1 x2 x3 x4 x5 x6 z = some (r, z1) := hq
        unfold qm_X13_unit_7 at hq
        refine lv_iload hx hb dmX13_unit_156 (lv_at hl 5 rfl) ?_
        refine lv_iload_n hx hb dmX13_unit_158 rfl (lv_at hl 2 rfl) ?_
        refine lv_icmp_ge (tgt := 222) hx hb dmX13_unit_159 (by decide) (fun hc => ?_) (fun hc => ?_)
        · have hq := tw_it hq hc
          refine lv_iconst (v := 1) hx hb dmX13_unit_222 (by decide) ?_
          obtain ⟨hz, hq⟩ := tw_gZ hq
          exact mw_zret hx hb hr hlocks hM hz hq hQQ dmX13_unit_223
        · have hq := tw_if hq hc
          refine lv_aload_n hx hb dmX13_unit_162 rfl (lv_at hl 0 rfl) ?_
          refine mg13_247 hx hb hT hown hK hM dmX13_unit_163 ?_
          refine lv_bipush (v := 24) hx hb dmX13_unit_166 (by decide) ?_
          refine lv_iload hx hb dmX13_unit_168 (lv_at hl 5 rfl) ?_
          refine lv_imul hx hb dmX13_unit_170 ?_
          refine lv_iload hx hb dmX13_unit_171 (lv_at hl 4 rfl) ?_
          refine lv_iadd hx hb dmX13_unit_173 ?_
          refine tw_lald mX_ok hx hb hK hM mr_64 hq dmX13_unit_174 (fun v8 hq => ?_)
          refine lv_lstore (lv' := [(6, .long v8), (0, .ref (u 0)), (1, .int x1), (2, .int x2), (3, .int x3), (4, .int x4), (5, .int x5)]) hx hb dmX13_unit_175 hl (by decide) rfl (fun ls hl => ?_)
          refine lv_aload_n hx hb dmX13_unit_177 rfl (lv_at hl 1 rfl) ?_
          refine mg13_247 hx hb hT hown hK hM dmX13_unit_178 ?_
          refine lv_bipush (v := 24) hx hb dmX13_unit_181 (by decide) ?_
          refine lv_iload hx hb dmX13_unit_183 (lv_at hl 6 rfl) ?_
          refine lv_imul hx hb dmX13_unit_185 ?_
          refine lv_iload hx hb dmX13_unit_186 (lv_at hl 5 rfl) ?_
          refine lv_iadd hx hb dmX13_unit_188 ?_
          refine lv_aload_n hx hb dmX13_unit_189 rfl (lv_at hl 1 rfl) ?_
          refine mg13_247 hx hb hT hown hK hM dmX13_unit_190 ?_
          refine lv_bipush (v := 24) hx hb dmX13_unit_193 (by decide) ?_
          refine lv_iload hx hb dmX13_unit_195 (lv_at hl 6 rfl) ?_
          refine lv_imul hx hb dmX13_unit_197 ?_
          refine lv_iload_n hx hb dmX13_unit_198 rfl (lv_at hl 2 rfl) ?_
          refine lv_iadd hx hb dmX13_unit_199 ?_
          refine tw_lald mX_ok hx hb hK hM mr_64 hq dmX13_unit_200 (fun v9 hq => ?_)
          refine tw_last mX_ok hU hx hb hK hM mr_64 hq dmX13_unit_201 (fun z10 H locs hM hq => ?_)
          refine lv_aload_n hx hb dmX13_unit_202 rfl (lv_at hl 1 rfl) ?_
          refine mg13_247 hx hb hT hown hK hM dmX13_unit_203 ?_
          refine lv_bipush (v := 24) hx hb dmX13_unit_206 (by decide) ?_
          refine lv_iload hx hb dmX13_unit_208 (lv_at hl 6 rfl) ?_
          refine lv_imul hx hb dmX13_unit_210 ?_
          refine lv_iload_n hx hb dmX13_unit_211 rfl (lv_at hl 2 rfl) ?_
          refine lv_iadd hx hb dmX13_unit_212 ?_
          refine lv_lload hx hb dmX13_unit_213 (lv_at hl 0 rfl) ?_
          refine tw_last mX_ok hU hx hb hK hM mr_64 hq dmX13_unit_215 (fun z11 H locs hM hq => ?_)
          refine lv_iinc (v := (x5 + 1)) (lv' := [(5, .int (x5 + 1)), (6, .long v8), (0, .ref (u 0)), (1, .int x1), (2, .int x2), (3, .int x3), (4, .int x4)]) hx hb dmX13_unit_216 hl (k := 6) rfl rfl (by decide) rfl (fun ls hl => ?_)
          refine lv_goto (tgt := 156) hx hb dmX13_unit_219 (by decide) ?_
          exact ih_7 x1 x2 x3 x4 (x5 + 1) 0 z11 H locs ls hM (lv_sub hl [2, 3, 4, 5, 6, 0] rfl) hq
  exact (key K).1 x1 x2 0 0 0 0 z s.heap [] ls  hM (lv_sub hl [0, 1, 2] rfl) hq
theorem dmX13_makeCover_0 : decode cX13_makeCover 0 = .ok (.aload_n 0, 1) := dw_at cX13_makeCover_k0 (p := 0) rfl (by decide +kernel)
theorem dmX13_makeCover_1 : decode cX13_makeCover 1 = .ok (.aload_n 1, 1) := dw_at cX13_makeCover_k0 (p := 1) rfl (by decide +kernel)
theorem dmX13_makeCover_2 : decode cX13_makeCover 2 = .ok (.invokevirtual 629, 3) := dw_at cX13_makeCover_k0 (p := 2) rfl (by decide +kernel)
theorem dmX13_makeCover_5 : decode cX13_makeCover 5 = .ok (.aload_n 1, 1) := dw_at cX13_makeCover_k0 (p := 5) rfl (by decide +kernel)
theorem dmX13_makeCover_6 : decode cX13_makeCover 6 = .ok (.getfield 44, 3) := dw_at cX13_makeCover_k0 (p := 6) rfl (by decide +kernel)
theorem dmX13_makeCover_9 : decode cX13_makeCover 9 = .ok (.iconst 2, 1) := dw_at cX13_makeCover_k0 (p := 9) rfl (by decide +kernel)
theorem dmX13_makeCover_10 : decode cX13_makeCover 10 = .ok (.idiv, 1) := dw_at cX13_makeCover_k0 (p := 10) rfl (by decide +kernel)
theorem dmX13_makeCover_11 : decode cX13_makeCover 11 = .ok (.istore_n 2, 1) := dw_at cX13_makeCover_k0 (p := 11) rfl (by decide +kernel)
theorem dmX13_makeCover_12 : decode cX13_makeCover 12 = .ok (.iconst 0, 1) := dw_at cX13_makeCover_k0 (p := 12) rfl (by decide +kernel)
theorem dmX13_makeCover_13 : decode cX13_makeCover 13 = .ok (.istore_n 3, 1) := dw_at cX13_makeCover_k0 (p := 13) rfl (by decide +kernel)
theorem dmX13_makeCover_14 : decode cX13_makeCover 14 = .ok (.iload_n 3, 1) := dw_at cX13_makeCover_k0 (p := 14) rfl (by decide +kernel)
theorem dmX13_makeCover_15 : decode cX13_makeCover 15 = .ok (.aload_n 0, 1) := dw_at cX13_makeCover_k0 (p := 15) rfl (by decide +kernel)
theorem dmX13_makeCover_16 : decode cX13_makeCover 16 = .ok (.getfield 247, 3) := dw_at cX13_makeCover_k0 (p := 16) rfl (by decide +kernel)
theorem dmX13_makeCover_19 : decode cX13_makeCover 19 = .ok (.arraylength, 1) := dw_at cX13_makeCover_k0 (p := 19) rfl (by decide +kernel)
theorem dmX13_makeCover_20 : decode cX13_makeCover 20 = .ok (.if_icmp .ge 16, 3) := dw_at cX13_makeCover_k0 (p := 20) rfl (by decide +kernel)
theorem dmX13_makeCover_23 : decode cX13_makeCover 23 = .ok (.aload_n 0, 1) := dw_at cX13_makeCover_k0 (p := 23) rfl (by decide +kernel)
theorem dmX13_makeCover_24 : decode cX13_makeCover 24 = .ok (.getfield 247, 3) := dw_at cX13_makeCover_k1 (p := 0) rfl (by decide +kernel)
theorem dmX13_makeCover_27 : decode cX13_makeCover 27 = .ok (.iload_n 3, 1) := dw_at cX13_makeCover_k1 (p := 3) rfl (by decide +kernel)
theorem dmX13_makeCover_28 : decode cX13_makeCover 28 = .ok (.lconst 0, 1) := dw_at cX13_makeCover_k1 (p := 4) rfl (by decide +kernel)
theorem dmX13_makeCover_29 : decode cX13_makeCover 29 = .ok (.lastore, 1) := dw_at cX13_makeCover_k1 (p := 5) rfl (by decide +kernel)
theorem dmX13_makeCover_30 : decode cX13_makeCover 30 = .ok (.iinc 3 1, 3) := dw_at cX13_makeCover_k1 (p := 6) rfl (by decide +kernel)
theorem dmX13_makeCover_33 : decode cX13_makeCover 33 = .ok (.goto (-19), 3) := dw_at cX13_makeCover_k1 (p := 9) rfl (by decide +kernel)
theorem dmX13_makeCover_36 : decode cX13_makeCover 36 = .ok (.iconst 0, 1) := dw_at cX13_makeCover_k1 (p := 12) rfl (by decide +kernel)
theorem dmX13_makeCover_37 : decode cX13_makeCover 37 = .ok (.istore_n 3, 1) := dw_at cX13_makeCover_k1 (p := 13) rfl (by decide +kernel)
theorem dmX13_makeCover_38 : decode cX13_makeCover 38 = .ok (.iload_n 3, 1) := dw_at cX13_makeCover_k1 (p := 14) rfl (by decide +kernel)
theorem dmX13_makeCover_39 : decode cX13_makeCover 39 = .ok (.iload_n 2, 1) := dw_at cX13_makeCover_k1 (p := 15) rfl (by decide +kernel)
theorem dmX13_makeCover_40 : decode cX13_makeCover 40 = .ok (.if_icmp .ge 71, 3) := dw_at cX13_makeCover_k1 (p := 16) rfl (by decide +kernel)
theorem dmX13_makeCover_43 : decode cX13_makeCover 43 = .ok (.aload_n 0, 1) := dw_at cX13_makeCover_k1 (p := 19) rfl (by decide +kernel)
theorem dmX13_makeCover_44 : decode cX13_makeCover 44 = .ok (.getfield 247, 3) := dw_at cX13_makeCover_k1 (p := 20) rfl (by decide +kernel)
theorem dmX13_makeCover_47 : decode cX13_makeCover 47 = .ok (.bipush 24, 2) := dw_at cX13_makeCover_k1 (p := 23) rfl (by decide +kernel)
theorem dmX13_makeCover_49 : decode cX13_makeCover 49 = .ok (.iload_n 3, 1) := dw_at cX13_makeCover_k2 (p := 0) rfl (by decide +kernel)
theorem dmX13_makeCover_50 : decode cX13_makeCover 50 = .ok (.imul, 1) := dw_at cX13_makeCover_k2 (p := 1) rfl (by decide +kernel)
theorem dmX13_makeCover_51 : decode cX13_makeCover 51 = .ok (.aload_n 0, 1) := dw_at cX13_makeCover_k2 (p := 2) rfl (by decide +kernel)
theorem dmX13_makeCover_52 : decode cX13_makeCover 52 = .ok (.getfield 238, 3) := dw_at cX13_makeCover_k2 (p := 3) rfl (by decide +kernel)
theorem dmX13_makeCover_55 : decode cX13_makeCover 55 = .ok (.iload_n 3, 1) := dw_at cX13_makeCover_k2 (p := 6) rfl (by decide +kernel)
theorem dmX13_makeCover_56 : decode cX13_makeCover 56 = .ok (.iaload, 1) := dw_at cX13_makeCover_k2 (p := 7) rfl (by decide +kernel)
theorem dmX13_makeCover_57 : decode cX13_makeCover 57 = .ok (.iadd, 1) := dw_at cX13_makeCover_k2 (p := 8) rfl (by decide +kernel)
theorem dmX13_makeCover_58 : decode cX13_makeCover 58 = .ok (.dup2, 1) := dw_at cX13_makeCover_k2 (p := 9) rfl (by decide +kernel)
theorem dmX13_makeCover_59 : decode cX13_makeCover 59 = .ok (.laload, 1) := dw_at cX13_makeCover_k2 (p := 10) rfl (by decide +kernel)
theorem dmX13_makeCover_60 : decode cX13_makeCover 60 = .ok (.ldc2_w 632, 3) := dw_at cX13_makeCover_k2 (p := 11) rfl (by decide +kernel)
theorem dmX13_makeCover_63 : decode cX13_makeCover 63 = .ok (.ladd, 1) := dw_at cX13_makeCover_k2 (p := 14) rfl (by decide +kernel)
theorem dmX13_makeCover_64 : decode cX13_makeCover 64 = .ok (.lastore, 1) := dw_at cX13_makeCover_k2 (p := 15) rfl (by decide +kernel)
theorem dmX13_makeCover_65 : decode cX13_makeCover 65 = .ok (.aload_n 0, 1) := dw_at cX13_makeCover_k2 (p := 16) rfl (by decide +kernel)
theorem dmX13_makeCover_66 : decode cX13_makeCover 66 = .ok (.getfield 247, 3) := dw_at cX13_makeCover_k2 (p := 17) rfl (by decide +kernel)
theorem dmX13_makeCover_69 : decode cX13_makeCover 69 = .ok (.bipush 24, 2) := dw_at cX13_makeCover_k2 (p := 20) rfl (by decide +kernel)
theorem dmX13_makeCover_71 : decode cX13_makeCover 71 = .ok (.iload_n 3, 1) := dw_at cX13_makeCover_k2 (p := 22) rfl (by decide +kernel)
theorem dmX13_makeCover_72 : decode cX13_makeCover 72 = .ok (.imul, 1) := dw_at cX13_makeCover_k2 (p := 23) rfl (by decide +kernel)
theorem dmX13_makeCover_73 : decode cX13_makeCover 73 = .ok (.aload_n 0, 1) := dw_at cX13_makeCover_k3 (p := 0) rfl (by decide +kernel)
theorem dmX13_makeCover_74 : decode cX13_makeCover 74 = .ok (.getfield 241, 3) := dw_at cX13_makeCover_k3 (p := 1) rfl (by decide +kernel)
theorem dmX13_makeCover_77 : decode cX13_makeCover 77 = .ok (.iload_n 3, 1) := dw_at cX13_makeCover_k3 (p := 4) rfl (by decide +kernel)
theorem dmX13_makeCover_78 : decode cX13_makeCover 78 = .ok (.iaload, 1) := dw_at cX13_makeCover_k3 (p := 5) rfl (by decide +kernel)
theorem dmX13_makeCover_79 : decode cX13_makeCover 79 = .ok (.iadd, 1) := dw_at cX13_makeCover_k3 (p := 6) rfl (by decide +kernel)
theorem dmX13_makeCover_80 : decode cX13_makeCover 80 = .ok (.dup2, 1) := dw_at cX13_makeCover_k3 (p := 7) rfl (by decide +kernel)
theorem dmX13_makeCover_81 : decode cX13_makeCover 81 = .ok (.laload, 1) := dw_at cX13_makeCover_k3 (p := 8) rfl (by decide +kernel)
theorem dmX13_makeCover_82 : decode cX13_makeCover 82 = .ok (.lconst 1, 1) := dw_at cX13_makeCover_k3 (p := 9) rfl (by decide +kernel)
theorem dmX13_makeCover_83 : decode cX13_makeCover 83 = .ok (.lsub, 1) := dw_at cX13_makeCover_k3 (p := 10) rfl (by decide +kernel)
theorem dmX13_makeCover_84 : decode cX13_makeCover 84 = .ok (.lastore, 1) := dw_at cX13_makeCover_k3 (p := 11) rfl (by decide +kernel)
theorem dmX13_makeCover_85 : decode cX13_makeCover 85 = .ok (.aload_n 0, 1) := dw_at cX13_makeCover_k3 (p := 12) rfl (by decide +kernel)
theorem dmX13_makeCover_86 : decode cX13_makeCover 86 = .ok (.getfield 247, 3) := dw_at cX13_makeCover_k3 (p := 13) rfl (by decide +kernel)
theorem dmX13_makeCover_89 : decode cX13_makeCover 89 = .ok (.bipush 24, 2) := dw_at cX13_makeCover_k3 (p := 16) rfl (by decide +kernel)
theorem dmX13_makeCover_91 : decode cX13_makeCover 91 = .ok (.iload_n 3, 1) := dw_at cX13_makeCover_k3 (p := 18) rfl (by decide +kernel)
theorem dmX13_makeCover_92 : decode cX13_makeCover 92 = .ok (.imul, 1) := dw_at cX13_makeCover_k3 (p := 19) rfl (by decide +kernel)
theorem dmX13_makeCover_93 : decode cX13_makeCover 93 = .ok (.aload_n 0, 1) := dw_at cX13_makeCover_k3 (p := 20) rfl (by decide +kernel)
theorem dmX13_makeCover_94 : decode cX13_makeCover 94 = .ok (.getfield 244, 3) := dw_at cX13_makeCover_k3 (p := 21) rfl (by decide +kernel)
theorem dmX13_makeCover_97 : decode cX13_makeCover 97 = .ok (.iload_n 3, 1) := dw_at cX13_makeCover_k4 (p := 0) rfl (by decide +kernel)
theorem dmX13_makeCover_98 : decode cX13_makeCover 98 = .ok (.iaload, 1) := dw_at cX13_makeCover_k4 (p := 1) rfl (by decide +kernel)
theorem dmX13_makeCover_99 : decode cX13_makeCover 99 = .ok (.iadd, 1) := dw_at cX13_makeCover_k4 (p := 2) rfl (by decide +kernel)
theorem dmX13_makeCover_100 : decode cX13_makeCover 100 = .ok (.dup2, 1) := dw_at cX13_makeCover_k4 (p := 3) rfl (by decide +kernel)
theorem dmX13_makeCover_101 : decode cX13_makeCover 101 = .ok (.laload, 1) := dw_at cX13_makeCover_k4 (p := 4) rfl (by decide +kernel)
theorem dmX13_makeCover_102 : decode cX13_makeCover 102 = .ok (.lconst 1, 1) := dw_at cX13_makeCover_k4 (p := 5) rfl (by decide +kernel)
theorem dmX13_makeCover_103 : decode cX13_makeCover 103 = .ok (.lsub, 1) := dw_at cX13_makeCover_k4 (p := 6) rfl (by decide +kernel)
theorem dmX13_makeCover_104 : decode cX13_makeCover 104 = .ok (.lastore, 1) := dw_at cX13_makeCover_k4 (p := 7) rfl (by decide +kernel)
theorem dmX13_makeCover_105 : decode cX13_makeCover 105 = .ok (.iinc 3 1, 3) := dw_at cX13_makeCover_k4 (p := 8) rfl (by decide +kernel)
theorem dmX13_makeCover_108 : decode cX13_makeCover 108 = .ok (.goto (-70), 3) := dw_at cX13_makeCover_k4 (p := 11) rfl (by decide +kernel)
theorem dmX13_makeCover_111 : decode cX13_makeCover 111 = .ok (.iconst 0, 1) := dw_at cX13_makeCover_k4 (p := 14) rfl (by decide +kernel)
theorem dmX13_makeCover_112 : decode cX13_makeCover 112 = .ok (.istore_n 3, 1) := dw_at cX13_makeCover_k4 (p := 15) rfl (by decide +kernel)
theorem dmX13_makeCover_113 : decode cX13_makeCover 113 = .ok (.iload_n 3, 1) := dw_at cX13_makeCover_k4 (p := 16) rfl (by decide +kernel)
theorem dmX13_makeCover_114 : decode cX13_makeCover 114 = .ok (.iload_n 2, 1) := dw_at cX13_makeCover_k4 (p := 17) rfl (by decide +kernel)
theorem dmX13_makeCover_115 : decode cX13_makeCover 115 = .ok (.if_icmp .ge 118, 3) := dw_at cX13_makeCover_k4 (p := 18) rfl (by decide +kernel)
theorem dmX13_makeCover_118 : decode cX13_makeCover 118 = .ok (.iload_n 3, 1) := dw_at cX13_makeCover_k4 (p := 21) rfl (by decide +kernel)
theorem dmX13_makeCover_119 : decode cX13_makeCover 119 = .ok (.aload_n 0, 1) := dw_at cX13_makeCover_k4 (p := 22) rfl (by decide +kernel)
theorem dmX13_makeCover_120 : decode cX13_makeCover 120 = .ok (.getfield 626, 3) := dw_at cX13_makeCover_k4 (p := 23) rfl (by decide +kernel)
theorem dmX13_makeCover_123 : decode cX13_makeCover 123 = .ok (.if_icmp .ge 110, 3) := dw_at cX13_makeCover_k5 (p := 0) rfl (by decide +kernel)
theorem dmX13_makeCover_126 : decode cX13_makeCover 126 = .ok (.aload_n 0, 1) := dw_at cX13_makeCover_k5 (p := 3) rfl (by decide +kernel)
theorem dmX13_makeCover_127 : decode cX13_makeCover 127 = .ok (.iload_n 3, 1) := dw_at cX13_makeCover_k5 (p := 4) rfl (by decide +kernel)
theorem dmX13_makeCover_128 : decode cX13_makeCover 128 = .ok (.iload_n 2, 1) := dw_at cX13_makeCover_k5 (p := 5) rfl (by decide +kernel)
theorem dmX13_makeCover_129 : decode cX13_makeCover 129 = .ok (.invokevirtual 634, 3) := dw_at cX13_makeCover_k5 (p := 6) rfl (by decide +kernel)
theorem dmX13_makeCover_132 : decode cX13_makeCover 132 = .ok (.ifCond .eq 101, 3) := dw_at cX13_makeCover_k5 (p := 9) rfl (by decide +kernel)
theorem dmX13_makeCover_135 : decode cX13_makeCover 135 = .ok (.iload_n 3, 1) := dw_at cX13_makeCover_k5 (p := 12) rfl (by decide +kernel)
theorem dmX13_makeCover_136 : decode cX13_makeCover 136 = .ok (.iconst 1, 1) := dw_at cX13_makeCover_k5 (p := 13) rfl (by decide +kernel)
theorem dmX13_makeCover_137 : decode cX13_makeCover 137 = .ok (.iadd, 1) := dw_at cX13_makeCover_k5 (p := 14) rfl (by decide +kernel)
theorem dmX13_makeCover_138 : decode cX13_makeCover 138 = .ok (.istore 4, 2) := dw_at cX13_makeCover_k5 (p := 15) rfl (by decide +kernel)
theorem dmX13_makeCover_140 : decode cX13_makeCover 140 = .ok (.iload 4, 2) := dw_at cX13_makeCover_k5 (p := 17) rfl (by decide +kernel)
theorem dmX13_makeCover_142 : decode cX13_makeCover 142 = .ok (.iload_n 2, 1) := dw_at cX13_makeCover_k5 (p := 19) rfl (by decide +kernel)
theorem dmX13_makeCover_143 : decode cX13_makeCover 143 = .ok (.if_icmp .ge 84, 3) := dw_at cX13_makeCover_k5 (p := 20) rfl (by decide +kernel)
theorem dmX13_makeCover_146 : decode cX13_makeCover 146 = .ok (.aload_n 0, 1) := dw_at cX13_makeCover_k5 (p := 23) rfl (by decide +kernel)
theorem dmX13_makeCover_147 : decode cX13_makeCover 147 = .ok (.getfield 247, 3) := dw_at cX13_makeCover_k6 (p := 0) rfl (by decide +kernel)
theorem dmX13_makeCover_150 : decode cX13_makeCover 150 = .ok (.bipush 24, 2) := dw_at cX13_makeCover_k6 (p := 3) rfl (by decide +kernel)
theorem dmX13_makeCover_152 : decode cX13_makeCover 152 = .ok (.iload 4, 2) := dw_at cX13_makeCover_k6 (p := 5) rfl (by decide +kernel)
theorem dmX13_makeCover_154 : decode cX13_makeCover 154 = .ok (.imul, 1) := dw_at cX13_makeCover_k6 (p := 7) rfl (by decide +kernel)
theorem dmX13_makeCover_155 : decode cX13_makeCover 155 = .ok (.iload_n 3, 1) := dw_at cX13_makeCover_k6 (p := 8) rfl (by decide +kernel)
theorem dmX13_makeCover_156 : decode cX13_makeCover 156 = .ok (.iadd, 1) := dw_at cX13_makeCover_k6 (p := 9) rfl (by decide +kernel)
theorem dmX13_makeCover_157 : decode cX13_makeCover 157 = .ok (.laload, 1) := dw_at cX13_makeCover_k6 (p := 10) rfl (by decide +kernel)
theorem dmX13_makeCover_158 : decode cX13_makeCover 158 = .ok (.aload_n 0, 1) := dw_at cX13_makeCover_k6 (p := 11) rfl (by decide +kernel)
theorem dmX13_makeCover_159 : decode cX13_makeCover 159 = .ok (.getfield 247, 3) := dw_at cX13_makeCover_k6 (p := 12) rfl (by decide +kernel)
theorem dmX13_makeCover_162 : decode cX13_makeCover 162 = .ok (.bipush 24, 2) := dw_at cX13_makeCover_k6 (p := 15) rfl (by decide +kernel)
theorem dmX13_makeCover_164 : decode cX13_makeCover 164 = .ok (.iload_n 3, 1) := dw_at cX13_makeCover_k6 (p := 17) rfl (by decide +kernel)
theorem dmX13_makeCover_165 : decode cX13_makeCover 165 = .ok (.imul, 1) := dw_at cX13_makeCover_k6 (p := 18) rfl (by decide +kernel)
theorem dmX13_makeCover_166 : decode cX13_makeCover 166 = .ok (.iload_n 3, 1) := dw_at cX13_makeCover_k6 (p := 19) rfl (by decide +kernel)
theorem dmX13_makeCover_167 : decode cX13_makeCover 167 = .ok (.iadd, 1) := dw_at cX13_makeCover_k6 (p := 20) rfl (by decide +kernel)
theorem dmX13_makeCover_168 : decode cX13_makeCover 168 = .ok (.laload, 1) := dw_at cX13_makeCover_k6 (p := 21) rfl (by decide +kernel)
theorem dmX13_makeCover_169 : decode cX13_makeCover 169 = .ok (.lmul, 1) := dw_at cX13_makeCover_k6 (p := 22) rfl (by decide +kernel)
theorem dmX13_makeCover_170 : decode cX13_makeCover 170 = .ok (.lstore 5, 2) := dw_at cX13_makeCover_k6 (p := 23) rfl (by decide +kernel)
theorem dmX13_makeCover_172 : decode cX13_makeCover 172 = .ok (.iload_n 3, 1) := dw_at cX13_makeCover_k7 (p := 0) rfl (by decide +kernel)
theorem dmX13_makeCover_173 : decode cX13_makeCover 173 = .ok (.istore 7, 2) := dw_at cX13_makeCover_k7 (p := 1) rfl (by decide +kernel)
theorem dmX13_makeCover_175 : decode cX13_makeCover 175 = .ok (.iload 7, 2) := dw_at cX13_makeCover_k7 (p := 3) rfl (by decide +kernel)
theorem dmX13_makeCover_177 : decode cX13_makeCover 177 = .ok (.aload_n 0, 1) := dw_at cX13_makeCover_k7 (p := 5) rfl (by decide +kernel)
theorem dmX13_makeCover_178 : decode cX13_makeCover 178 = .ok (.getfield 626, 3) := dw_at cX13_makeCover_k7 (p := 6) rfl (by decide +kernel)
theorem dmX13_makeCover_181 : decode cX13_makeCover 181 = .ok (.if_icmp .ge 40, 3) := dw_at cX13_makeCover_k7 (p := 9) rfl (by decide +kernel)
theorem dmX13_makeCover_184 : decode cX13_makeCover 184 = .ok (.aload_n 0, 1) := dw_at cX13_makeCover_k7 (p := 12) rfl (by decide +kernel)
theorem dmX13_makeCover_185 : decode cX13_makeCover 185 = .ok (.getfield 247, 3) := dw_at cX13_makeCover_k7 (p := 13) rfl (by decide +kernel)
theorem dmX13_makeCover_188 : decode cX13_makeCover 188 = .ok (.bipush 24, 2) := dw_at cX13_makeCover_k7 (p := 16) rfl (by decide +kernel)
theorem dmX13_makeCover_190 : decode cX13_makeCover 190 = .ok (.iload 4, 2) := dw_at cX13_makeCover_k7 (p := 18) rfl (by decide +kernel)
theorem dmX13_makeCover_192 : decode cX13_makeCover 192 = .ok (.imul, 1) := dw_at cX13_makeCover_k7 (p := 20) rfl (by decide +kernel)
theorem dmX13_makeCover_193 : decode cX13_makeCover 193 = .ok (.iload 7, 2) := dw_at cX13_makeCover_k7 (p := 21) rfl (by decide +kernel)
theorem dmX13_makeCover_195 : decode cX13_makeCover 195 = .ok (.iadd, 1) := dw_at cX13_makeCover_k7 (p := 23) rfl (by decide +kernel)
theorem dmX13_makeCover_196 : decode cX13_makeCover 196 = .ok (.dup2, 1) := dw_at cX13_makeCover_k8 (p := 0) rfl (by decide +kernel)
theorem dmX13_makeCover_197 : decode cX13_makeCover 197 = .ok (.laload, 1) := dw_at cX13_makeCover_k8 (p := 1) rfl (by decide +kernel)
theorem dmX13_makeCover_198 : decode cX13_makeCover 198 = .ok (.lload 5, 2) := dw_at cX13_makeCover_k8 (p := 2) rfl (by decide +kernel)
theorem dmX13_makeCover_200 : decode cX13_makeCover 200 = .ok (.aload_n 0, 1) := dw_at cX13_makeCover_k8 (p := 4) rfl (by decide +kernel)
theorem dmX13_makeCover_201 : decode cX13_makeCover 201 = .ok (.getfield 247, 3) := dw_at cX13_makeCover_k8 (p := 5) rfl (by decide +kernel)
theorem dmX13_makeCover_204 : decode cX13_makeCover 204 = .ok (.bipush 24, 2) := dw_at cX13_makeCover_k8 (p := 8) rfl (by decide +kernel)
theorem dmX13_makeCover_206 : decode cX13_makeCover 206 = .ok (.iload_n 3, 1) := dw_at cX13_makeCover_k8 (p := 10) rfl (by decide +kernel)
theorem dmX13_makeCover_207 : decode cX13_makeCover 207 = .ok (.imul, 1) := dw_at cX13_makeCover_k8 (p := 11) rfl (by decide +kernel)
theorem dmX13_makeCover_208 : decode cX13_makeCover 208 = .ok (.iload 7, 2) := dw_at cX13_makeCover_k8 (p := 12) rfl (by decide +kernel)
theorem dmX13_makeCover_210 : decode cX13_makeCover 210 = .ok (.iadd, 1) := dw_at cX13_makeCover_k8 (p := 14) rfl (by decide +kernel)
theorem dmX13_makeCover_211 : decode cX13_makeCover 211 = .ok (.laload, 1) := dw_at cX13_makeCover_k8 (p := 15) rfl (by decide +kernel)
theorem dmX13_makeCover_212 : decode cX13_makeCover 212 = .ok (.lmul, 1) := dw_at cX13_makeCover_k8 (p := 16) rfl (by decide +kernel)
theorem dmX13_makeCover_213 : decode cX13_makeCover 213 = .ok (.lsub, 1) := dw_at cX13_makeCover_k8 (p := 17) rfl (by decide +kernel)
theorem dmX13_makeCover_214 : decode cX13_makeCover 214 = .ok (.lastore, 1) := dw_at cX13_makeCover_k8 (p := 18) rfl (by decide +kernel)
theorem dmX13_makeCover_215 : decode cX13_makeCover 215 = .ok (.iinc 7 1, 3) := dw_at cX13_makeCover_k8 (p := 19) rfl (by decide +kernel)
theorem dmX13_makeCover_218 : decode cX13_makeCover 218 = .ok (.goto (-43), 3) := dw_at cX13_makeCover_k8 (p := 22) rfl (by decide +kernel)
theorem dmX13_makeCover_221 : decode cX13_makeCover 221 = .ok (.iinc 4 1, 3) := dw_at cX13_makeCover_k9 (p := 0) rfl (by decide +kernel)
theorem dmX13_makeCover_224 : decode cX13_makeCover 224 = .ok (.goto (-84), 3) := dw_at cX13_makeCover_k9 (p := 3) rfl (by decide +kernel)
theorem dmX13_makeCover_227 : decode cX13_makeCover 227 = .ok (.iinc 3 1, 3) := dw_at cX13_makeCover_k9 (p := 6) rfl (by decide +kernel)
theorem dmX13_makeCover_230 : decode cX13_makeCover 230 = .ok (.goto (-117), 3) := dw_at cX13_makeCover_k9 (p := 9) rfl (by decide +kernel)
theorem dmX13_makeCover_233 : decode cX13_makeCover 233 = .ok (.aload_n 0, 1) := dw_at cX13_makeCover_k9 (p := 12) rfl (by decide +kernel)
theorem dmX13_makeCover_234 : decode cX13_makeCover 234 = .ok (.iload_n 3, 1) := dw_at cX13_makeCover_k9 (p := 13) rfl (by decide +kernel)
theorem dmX13_makeCover_235 : decode cX13_makeCover 235 = .ok (.iload_n 2, 1) := dw_at cX13_makeCover_k9 (p := 14) rfl (by decide +kernel)
theorem dmX13_makeCover_236 : decode cX13_makeCover 236 = .ok (.invokevirtual 637, 3) := dw_at cX13_makeCover_k9 (p := 15) rfl (by decide +kernel)
theorem dmX13_makeCover_239 : decode cX13_makeCover 239 = .ok (.aload_n 0, 1) := dw_at cX13_makeCover_k9 (p := 18) rfl (by decide +kernel)
theorem dmX13_makeCover_240 : decode cX13_makeCover 240 = .ok (.iconst 0, 1) := dw_at cX13_makeCover_k9 (p := 19) rfl (by decide +kernel)
theorem dmX13_makeCover_241 : decode cX13_makeCover 241 = .ok (.putfield 640, 3) := dw_at cX13_makeCover_k9 (p := 20) rfl (by decide +kernel)
theorem dmX13_makeCover_244 : decode cX13_makeCover 244 = .ok (.lconst 1, 1) := dw_at cX13_makeCover_k9 (p := 23) rfl (by decide +kernel)
theorem dmX13_makeCover_245 : decode cX13_makeCover 245 = .ok (.lstore 4, 2) := dw_at cX13_makeCover_k10 (p := 0) rfl (by decide +kernel)
theorem dmX13_makeCover_247 : decode cX13_makeCover 247 = .ok (.iconst 0, 1) := dw_at cX13_makeCover_k10 (p := 2) rfl (by decide +kernel)
theorem dmX13_makeCover_248 : decode cX13_makeCover 248 = .ok (.istore 6, 2) := dw_at cX13_makeCover_k10 (p := 3) rfl (by decide +kernel)
theorem dmX13_makeCover_250 : decode cX13_makeCover 250 = .ok (.aload_n 0, 1) := dw_at cX13_makeCover_k10 (p := 5) rfl (by decide +kernel)
theorem dmX13_makeCover_251 : decode cX13_makeCover 251 = .ok (.iconst 1, 1) := dw_at cX13_makeCover_k10 (p := 6) rfl (by decide +kernel)
theorem dmX13_makeCover_252 : decode cX13_makeCover 252 = .ok (.lconst 1, 1) := dw_at cX13_makeCover_k10 (p := 7) rfl (by decide +kernel)
theorem dmX13_makeCover_253 : decode cX13_makeCover 253 = .ok (.invokevirtual 643, 3) := dw_at cX13_makeCover_k10 (p := 8) rfl (by decide +kernel)
theorem dmX13_makeCover_256 : decode cX13_makeCover 256 = .ok (.lstore 7, 2) := dw_at cX13_makeCover_k10 (p := 11) rfl (by decide +kernel)
theorem dmX13_makeCover_258 : decode cX13_makeCover 258 = .ok (.lload 7, 2) := dw_at cX13_makeCover_k10 (p := 13) rfl (by decide +kernel)
theorem dmX13_makeCover_260 : decode cX13_makeCover 260 = .ok (.lconst 0, 1) := dw_at cX13_makeCover_k10 (p := 15) rfl (by decide +kernel)
theorem dmX13_makeCover_261 : decode cX13_makeCover 261 = .ok (.lcmp, 1) := dw_at cX13_makeCover_k10 (p := 16) rfl (by decide +kernel)
theorem dmX13_makeCover_262 : decode cX13_makeCover 262 = .ok (.ifCond .eq 57, 3) := dw_at cX13_makeCover_k10 (p := 17) rfl (by decide +kernel)
theorem dmX13_makeCover_265 : decode cX13_makeCover 265 = .ok (.iinc 6 1, 3) := dw_at cX13_makeCover_k10 (p := 20) rfl (by decide +kernel)
theorem dmX13_makeCover_268 : decode cX13_makeCover 268 = .ok (.lload 7, 2) := dw_at cX13_makeCover_k10 (p := 23) rfl (by decide +kernel)
theorem dmX13_makeCover_270 : decode cX13_makeCover 270 = .ok (.lload 4, 2) := dw_at cX13_makeCover_k11 (p := 0) rfl (by decide +kernel)
theorem dmX13_makeCover_272 : decode cX13_makeCover 272 = .ok (.lcmp, 1) := dw_at cX13_makeCover_k11 (p := 2) rfl (by decide +kernel)
theorem dmX13_makeCover_273 : decode cX13_makeCover 273 = .ok (.ifCond .eq 27, 3) := dw_at cX13_makeCover_k11 (p := 3) rfl (by decide +kernel)
theorem dmX13_makeCover_276 : decode cX13_makeCover 276 = .ok (.aload_n 0, 1) := dw_at cX13_makeCover_k11 (p := 6) rfl (by decide +kernel)
theorem dmX13_makeCover_277 : decode cX13_makeCover 277 = .ok (.getfield 253, 3) := dw_at cX13_makeCover_k11 (p := 7) rfl (by decide +kernel)
theorem dmX13_makeCover_280 : decode cX13_makeCover 280 = .ok (.aload_n 0, 1) := dw_at cX13_makeCover_k11 (p := 10) rfl (by decide +kernel)
theorem dmX13_makeCover_281 : decode cX13_makeCover 281 = .ok (.getfield 640, 3) := dw_at cX13_makeCover_k11 (p := 11) rfl (by decide +kernel)
theorem dmX13_makeCover_284 : decode cX13_makeCover 284 = .ok (.lload 7, 2) := dw_at cX13_makeCover_k11 (p := 14) rfl (by decide +kernel)
theorem dmX13_makeCover_286 : decode cX13_makeCover 286 = .ok (.lload 4, 2) := dw_at cX13_makeCover_k11 (p := 16) rfl (by decide +kernel)
theorem dmX13_makeCover_288 : decode cX13_makeCover 288 = .ok (.ldiv, 1) := dw_at cX13_makeCover_k11 (p := 18) rfl (by decide +kernel)
theorem dmX13_makeCover_289 : decode cX13_makeCover 289 = .ok (.lastore, 1) := dw_at cX13_makeCover_k11 (p := 19) rfl (by decide +kernel)
theorem dmX13_makeCover_290 : decode cX13_makeCover 290 = .ok (.aload_n 0, 1) := dw_at cX13_makeCover_k11 (p := 20) rfl (by decide +kernel)
theorem dmX13_makeCover_291 : decode cX13_makeCover 291 = .ok (.dup, 1) := dw_at cX13_makeCover_k11 (p := 21) rfl (by decide +kernel)
theorem dmX13_makeCover_292 : decode cX13_makeCover 292 = .ok (.getfield 640, 3) := dw_at cX13_makeCover_k11 (p := 22) rfl (by decide +kernel)
theorem dmX13_makeCover_295 : decode cX13_makeCover 295 = .ok (.iconst 1, 1) := dw_at cX13_makeCover_k12 (p := 0) rfl (by decide +kernel)
theorem dmX13_makeCover_296 : decode cX13_makeCover 296 = .ok (.iadd, 1) := dw_at cX13_makeCover_k12 (p := 1) rfl (by decide +kernel)
theorem dmX13_makeCover_297 : decode cX13_makeCover 297 = .ok (.putfield 640, 3) := dw_at cX13_makeCover_k12 (p := 2) rfl (by decide +kernel)
theorem dmX13_makeCover_300 : decode cX13_makeCover 300 = .ok (.lload 7, 2) := dw_at cX13_makeCover_k12 (p := 5) rfl (by decide +kernel)
theorem dmX13_makeCover_302 : decode cX13_makeCover 302 = .ok (.lstore 4, 2) := dw_at cX13_makeCover_k12 (p := 7) rfl (by decide +kernel)
theorem dmX13_makeCover_304 : decode cX13_makeCover 304 = .ok (.aload_n 0, 1) := dw_at cX13_makeCover_k12 (p := 9) rfl (by decide +kernel)
theorem dmX13_makeCover_305 : decode cX13_makeCover 305 = .ok (.iload 6, 2) := dw_at cX13_makeCover_k12 (p := 10) rfl (by decide +kernel)
theorem dmX13_makeCover_307 : decode cX13_makeCover 307 = .ok (.iconst 1, 1) := dw_at cX13_makeCover_k12 (p := 12) rfl (by decide +kernel)
theorem dmX13_makeCover_308 : decode cX13_makeCover 308 = .ok (.iadd, 1) := dw_at cX13_makeCover_k12 (p := 13) rfl (by decide +kernel)
theorem dmX13_makeCover_309 : decode cX13_makeCover 309 = .ok (.lload 4, 2) := dw_at cX13_makeCover_k12 (p := 14) rfl (by decide +kernel)
theorem dmX13_makeCover_311 : decode cX13_makeCover 311 = .ok (.invokevirtual 643, 3) := dw_at cX13_makeCover_k12 (p := 16) rfl (by decide +kernel)
theorem dmX13_makeCover_314 : decode cX13_makeCover 314 = .ok (.lstore 7, 2) := dw_at cX13_makeCover_k12 (p := 19) rfl (by decide +kernel)
theorem dmX13_makeCover_316 : decode cX13_makeCover 316 = .ok (.goto (-58), 3) := dw_at cX13_makeCover_k12 (p := 21) rfl (by decide +kernel)
theorem dmX13_makeCover_319 : decode cX13_makeCover 319 = .ok (.iload_n 3, 1) := dw_at cX13_makeCover_k13 (p := 0) rfl (by decide +kernel)
theorem dmX13_makeCover_320 : decode cX13_makeCover 320 = .ok (.iload 6, 2) := dw_at cX13_makeCover_k13 (p := 1) rfl (by decide +kernel)
theorem dmX13_makeCover_322 : decode cX13_makeCover 322 = .ok (.iadd, 1) := dw_at cX13_makeCover_k13 (p := 3) rfl (by decide +kernel)
theorem dmX13_makeCover_323 : decode cX13_makeCover 323 = .ok (.istore 9, 2) := dw_at cX13_makeCover_k13 (p := 4) rfl (by decide +kernel)
theorem dmX13_makeCover_325 : decode cX13_makeCover 325 = .ok (.iload 9, 2) := dw_at cX13_makeCover_k13 (p := 6) rfl (by decide +kernel)
theorem dmX13_makeCover_327 : decode cX13_makeCover 327 = .ok (.aload_n 0, 1) := dw_at cX13_makeCover_k13 (p := 8) rfl (by decide +kernel)
theorem dmX13_makeCover_328 : decode cX13_makeCover 328 = .ok (.getfield 626, 3) := dw_at cX13_makeCover_k13 (p := 9) rfl (by decide +kernel)
theorem dmX13_makeCover_331 : decode cX13_makeCover 331 = .ok (.iconst 1, 1) := dw_at cX13_makeCover_k13 (p := 12) rfl (by decide +kernel)
theorem dmX13_makeCover_332 : decode cX13_makeCover 332 = .ok (.isub, 1) := dw_at cX13_makeCover_k13 (p := 13) rfl (by decide +kernel)
theorem dmX13_makeCover_333 : decode cX13_makeCover 333 = .ok (.if_icmp .ge 29, 3) := dw_at cX13_makeCover_k13 (p := 14) rfl (by decide +kernel)
theorem dmX13_makeCover_336 : decode cX13_makeCover 336 = .ok (.aload_n 0, 1) := dw_at cX13_makeCover_k13 (p := 17) rfl (by decide +kernel)
theorem dmX13_makeCover_337 : decode cX13_makeCover 337 = .ok (.getfield 253, 3) := dw_at cX13_makeCover_k13 (p := 18) rfl (by decide +kernel)
theorem dmX13_makeCover_340 : decode cX13_makeCover 340 = .ok (.aload_n 0, 1) := dw_at cX13_makeCover_k13 (p := 21) rfl (by decide +kernel)
theorem dmX13_makeCover_341 : decode cX13_makeCover 341 = .ok (.getfield 640, 3) := dw_at cX13_makeCover_k13 (p := 22) rfl (by decide +kernel)
theorem dmX13_makeCover_344 : decode cX13_makeCover 344 = .ok (.lconst 0, 1) := dw_at cX13_makeCover_k14 (p := 0) rfl (by decide +kernel)
theorem dmX13_makeCover_345 : decode cX13_makeCover 345 = .ok (.lastore, 1) := dw_at cX13_makeCover_k14 (p := 1) rfl (by decide +kernel)
theorem dmX13_makeCover_346 : decode cX13_makeCover 346 = .ok (.aload_n 0, 1) := dw_at cX13_makeCover_k14 (p := 2) rfl (by decide +kernel)
theorem dmX13_makeCover_347 : decode cX13_makeCover 347 = .ok (.dup, 1) := dw_at cX13_makeCover_k14 (p := 3) rfl (by decide +kernel)
theorem dmX13_makeCover_348 : decode cX13_makeCover 348 = .ok (.getfield 640, 3) := dw_at cX13_makeCover_k14 (p := 4) rfl (by decide +kernel)
theorem dmX13_makeCover_351 : decode cX13_makeCover 351 = .ok (.iconst 1, 1) := dw_at cX13_makeCover_k14 (p := 7) rfl (by decide +kernel)
theorem dmX13_makeCover_352 : decode cX13_makeCover 352 = .ok (.iadd, 1) := dw_at cX13_makeCover_k14 (p := 8) rfl (by decide +kernel)
theorem dmX13_makeCover_353 : decode cX13_makeCover 353 = .ok (.putfield 640, 3) := dw_at cX13_makeCover_k14 (p := 9) rfl (by decide +kernel)
theorem dmX13_makeCover_356 : decode cX13_makeCover 356 = .ok (.iinc 9 1, 3) := dw_at cX13_makeCover_k14 (p := 12) rfl (by decide +kernel)
theorem dmX13_makeCover_359 : decode cX13_makeCover 359 = .ok (.goto (-34), 3) := dw_at cX13_makeCover_k14 (p := 15) rfl (by decide +kernel)
theorem dmX13_makeCover_362 : decode cX13_makeCover 362 = .ok (.return_, 1) := dw_at cX13_makeCover_k14 (p := 18) rfl (by decide +kernel)
def qm_X13_makeCover_0 (K : Nat) (go : Nat → Int32 → Int32 → Int32 → Int32 → Int32 → Int32 → Int64 → Int64 → Int64 → Nat → ow_MS → Option ow_MS) (x2 : Int32) (x3 : Int32) (x4 : Int32) (x6 : Int32) (x7 : Int32) (x9 : Int32) (w4 : Int64) (w5 : Int64) (w7 : Int64) (r1 : Nat) (z : ow_MS) : Option ow_MS :=
 cs0 (qe_X13_makeArcs K r1 z) fun z1 => rdF z1 (r1 + 1) fun v2 => nzI 2 (go 1 (v2 / 2) 0 0 0 0 0 0 0 0 r1 z1)
def qm_X13_makeCover_1 (K : Nat) (go : Nat → Int32 → Int32 → Int32 → Int32 → Int32 → Int32 → Int64 → Int64 → Int64 → Nat → ow_MS → Option ow_MS) (x2 : Int32) (x3 : Int32) (x4 : Int32) (x6 : Int32) (x7 : Int32) (x9 : Int32) (w4 : Int64) (w5 : Int64) (w7 : Int64) (r1 : Nat) (z : ow_MS) : Option ow_MS :=
 (if (Int32.ofNat (mX.2 64).2.1) ≤ x3 then go 2 x2 0 0 0 0 0 0 0 0 r1 z
 else wrJ mX z 64 x3 0 fun z3 => go 1 x2 (x3 + 1) 0 0 0 0 0 0 0 r1 z3)
def qm_X13_makeCover_2 (K : Nat) (go : Nat → Int32 → Int32 → Int32 → Int32 → Int32 → Int32 → Int64 → Int64 → Int64 → Nat → ow_MS → Option ow_MS) (x2 : Int32) (x3 : Int32) (x4 : Int32) (x6 : Int32) (x7 : Int32) (x9 : Int32) (w4 : Int64) (w5 : Int64) (w7 : Int64) (r1 : Nat) (z : ow_MS) : Option ow_MS :=
 (if x2 ≤ x3 then go 3 x2 0 0 0 0 0 0 0 0 r1 z
 else rdI mX z 61 x3 fun v4 => rdJ mX z 64 ((24 * x3) + v4) fun v5 => wrJ mX z 64 ((24 * x3) + v4) (v5 + 2) fun z6 => rdI mX z6 62 x3 fun v7 => rdJ mX z6 64 ((24 * x3) + v7) fun v8 => wrJ mX z6 64 ((24 * x3) + v7) (v8 - 1) fun z9 => rdI mX z9 63 x3 fun v10 => rdJ mX z9 64 ((24 * x3) + v10) fun v11 => wrJ mX z9 64 ((24 * x3) + v10) (v11 - 1) fun z12 => go 2 x2 (x3 + 1) 0 0 0 0 0 0 0 r1 z12)
def qm_X13_makeCover_3 (K : Nat) (go : Nat → Int32 → Int32 → Int32 → Int32 → Int32 → Int32 → Int64 → Int64 → Int64 → Nat → ow_MS → Option ow_MS) (x2 : Int32) (x3 : Int32) (x4 : Int32) (x6 : Int32) (x7 : Int32) (x9 : Int32) (w4 : Int64) (w5 : Int64) (w7 : Int64) (r1 : Nat) (z : ow_MS) : Option ow_MS :=
 (if x2 ≤ x3 then go 6 x2 x3 0 0 0 0 0 0 0 r1 z
 else rdF z 58 fun v13 => (if v13 ≤ x3 then go 6 x2 x3 0 0 0 0 0 0 0 r1 z
 else cs1 (qe_X13_unit K x3 x2 z) fun v15 z14 => (if v15 = 0 then go 6 x2 x3 0 0 0 0 0 0 0 r1 z14
 else go 4 x2 x3 (x3 + 1) 0 0 0 0 0 0 r1 z14)))
def qm_X13_makeCover_4 (K : Nat) (go : Nat → Int32 → Int32 → Int32 → Int32 → Int32 → Int32 → Int64 → Int64 → Int64 → Nat → ow_MS → Option ow_MS) (x2 : Int32) (x3 : Int32) (x4 : Int32) (x6 : Int32) (x7 : Int32) (x9 : Int32) (w4 : Int64) (w5 : Int64) (w7 : Int64) (r1 : Nat) (z : ow_MS) : Option ow_MS :=
 (if x2 ≤ x4 then go 3 x2 (x3 + 1) 0 0 0 0 0 0 0 r1 z
 else rdJ mX z 64 ((24 * x4) + x3) fun v16 => rdJ mX z 64 ((24 * x3) + x3) fun v17 => go 5 x2 x3 x4 0 x3 0 0 (v16 * v17) 0 r1 z)
def qm_X13_makeCover_5 (K : Nat) (go : Nat → Int32 → Int32 → Int32 → Int32 → Int32 → Int32 → Int64 → Int64 → Int64 → Nat → ow_MS → Option ow_MS) (x2 : Int32) (x3 : Int32) (x4 : Int32) (x6 : Int32) (x7 : Int32) (x9 : Int32) (w4 : Int64) (w5 : Int64) (w7 : Int64) (r1 : Nat) (z : ow_MS) : Option ow_MS :=
 rdF z 58 fun v18 => (if v18 ≤ x7 then go 4 x2 x3 (x4 + 1) 0 0 0 0 0 0 r1 z
 else rdJ mX z 64 ((24 * x4) + x7) fun v19 => rdJ mX z 64 ((24 * x3) + x7) fun v20 => wrJ mX z 64 ((24 * x4) + x7) (v19 - (w5 * v20)) fun z21 => go 5 x2 x3 x4 0 (x7 + 1) 0 0 w5 0 r1 z21)
def qm_X13_makeCover_6 (K : Nat) (go : Nat → Int32 → Int32 → Int32 → Int32 → Int32 → Int32 → Int64 → Int64 → Int64 → Nat → ow_MS → Option ow_MS) (x2 : Int32) (x3 : Int32) (x4 : Int32) (x6 : Int32) (x7 : Int32) (x9 : Int32) (w4 : Int64) (w5 : Int64) (w7 : Int64) (r1 : Nat) (z : ow_MS) : Option ow_MS :=
 cs0 (qe_X13_leave K x3 x2 z) fun z22 => wrF z22 67 0 fun z23 => cs1 (qe_X13_divisor K 1 1 z23) fun v25 z24 => go 7 x2 x3 0 0 0 0 1 0 v25 r1 z24
def qm_X13_makeCover_7 (K : Nat) (go : Nat → Int32 → Int32 → Int32 → Int32 → Int32 → Int32 → Int64 → Int64 → Int64 → Nat → ow_MS → Option ow_MS) (x2 : Int32) (x3 : Int32) (x4 : Int32) (x6 : Int32) (x7 : Int32) (x9 : Int32) (w4 : Int64) (w5 : Int64) (w7 : Int64) (r1 : Nat) (z : ow_MS) : Option ow_MS :=
 (if (lg_cmp w7 0) = 0 then go 9 x2 x3 0 x6 0 (x3 + x6) w4 0 w7 r1 z
 else (if (lg_cmp w7 w4) = 0 then go 8 x2 x3 0 (x6 + 1) 0 0 w4 0 w7 r1 z
 else rdF z 67 fun v26 => nzJ w4 (wrJ mX z 66 v26 (w7 / w4) fun z27 => rdF z27 67 fun v28 => wrF z27 67 (v28 + 1) fun z29 => go 8 x2 x3 0 (x6 + 1) 0 0 w4 0 w7 r1 z29)))
def qm_X13_makeCover_8 (K : Nat) (go : Nat → Int32 → Int32 → Int32 → Int32 → Int32 → Int32 → Int64 → Int64 → Int64 → Nat → ow_MS → Option ow_MS) (x2 : Int32) (x3 : Int32) (x4 : Int32) (x6 : Int32) (x7 : Int32) (x9 : Int32) (w4 : Int64) (w5 : Int64) (w7 : Int64) (r1 : Nat) (z : ow_MS) : Option ow_MS :=
 cs1 (qe_X13_divisor K (x6 + 1) w7 z) fun v31 z30 => go 7 x2 x3 0 x6 0 0 w7 0 v31 r1 z30
def qm_X13_makeCover_9 (K : Nat) (go : Nat → Int32 → Int32 → Int32 → Int32 → Int32 → Int32 → Int64 → Int64 → Int64 → Nat → ow_MS → Option ow_MS) (x2 : Int32) (x3 : Int32) (x4 : Int32) (x6 : Int32) (x7 : Int32) (x9 : Int32) (w4 : Int64) (w5 : Int64) (w7 : Int64) (r1 : Nat) (z : ow_MS) : Option ow_MS :=
 rdF z 58 fun v32 => (if (v32 - 1) ≤ x9 then some z
 else rdF z 67 fun v33 => wrJ mX z 66 v33 0 fun z34 => rdF z34 67 fun v35 => wrF z34 67 (v35 + 1) fun z36 => go 9 x2 x3 0 x6 0 (x9 + 1) w4 0 w7 r1 z36)
def qb_X13_makeCover (K : Nat) (go : Nat → Int32 → Int32 → Int32 → Int32 → Int32 → Int32 → Int64 → Int64 → Int64 → Nat → ow_MS → Option ow_MS) (L : Nat) (x2 : Int32) (x3 : Int32) (x4 : Int32) (x6 : Int32) (x7 : Int32) (x9 : Int32) (w4 : Int64) (w5 : Int64) (w7 : Int64) (r1 : Nat) (z : ow_MS) : Option ow_MS := match L with
  | 0 => qm_X13_makeCover_0 K go x2 x3 x4 x6 x7 x9 w4 w5 w7 r1 z
  | 1 => qm_X13_makeCover_1 K go x2 x3 x4 x6 x7 x9 w4 w5 w7 r1 z
  | 2 => qm_X13_makeCover_2 K go x2 x3 x4 x6 x7 x9 w4 w5 w7 r1 z
  | 3 => qm_X13_makeCover_3 K go x2 x3 x4 x6 x7 x9 w4 w5 w7 r1 z
  | 4 => qm_X13_makeCover_4 K go x2 x3 x4 x6 x7 x9 w4 w5 w7 r1 z
  | 5 => qm_X13_makeCover_5 K go x2 x3 x4 x6 x7 x9 w4 w5 w7 r1 z
  | 6 => qm_X13_makeCover_6 K go x2 x3 x4 x6 x7 x9 w4 w5 w7 r1 z
  | 7 => qm_X13_makeCover_7 K go x2 x3 x4 x6 x7 x9 w4 w5 w7 r1 z
  | 8 => qm_X13_makeCover_8 K go x2 x3 x4 x6 x7 x9 w4 w5 w7 r1 z
  | 9 => qm_X13_makeCover_9 K go x2 x3 x4 x6 x7 x9 w4 w5 w7 r1 z
  | _ => none
def q_X13_makeCover (K : Nat) : Nat → Nat → Int32 → Int32 → Int32 → Int32 → Int32 → Int32 → Int64 → Int64 → Int64 → Nat → ow_MS → Option ow_MS
  | 0 => fun _ _ _ _ _ _ _ _ _ _ _ _ => none
  | k + 1 => qb_X13_makeCover K (q_X13_makeCover K k)
def qe_X13_makeCover (K : Nat) (r1 : Nat) (z : ow_MS) : Option ow_MS := q_X13_makeCover K K 0 0 0 0 0 0 0 0 0 0 r1 z
abbrev wm_X13_makeCover : List Cond := .code yX13_makeCover cX13_makeCover 10 none :: wM
theorem cd_X13_makeCover : yX13_makeCover.cls = RX13 ∧ yX13_makeCover.cls ≠ "java/lang/invoke/MethodHandle" ∧ yX13_makeCover.cls ≠ "java/lang/invoke/VarHandle" ∧ (parseMethodDescriptor yX13_makeCover.desc).map (fun d => d.parameters.length) = some 1 := by decide +kernel
set_option maxHeartbeats 4000000 in
set_option maxRecDepth 100000 in
theorem km_X13_makeCover (l : Launch) (D : va_G) (q : ow_Q5) (u : Nat → Nat) (hU : tw_inj mX u) (K : Nat) (r1 : Nat) (hr1 : mw_net r1) (z z1 : ow_MS) (hq : qe_X13_makeCover K r1 z = some z1) : Met l yX13_makeCover wm_X13_makeCover ({ frames := 2, cells := 0, slots := 0, locals := 58 } : Room) (va_Pc [.ref (u 0), .ref (u r1)] (mw_pre D q u z)) (va_Qv (fun (_ : Unit) => True) (fun _ t => va_P D vwCl (tw mX q u z1) t.heap) (tw_A mX u)) 0 0 (tw_A mX u) := by
  refine Met.ofW (cc := cX13_makeCover) (maxL := 10) (ret := none) (by decide) rfl ?_
  intro p e s m args below meth c s₁ B hml hv
  obtain ⟨rfl, hP, hK, hN⟩ := hv
  have hx := B.exec
  have hb := B.bytes
  have hr := B.returns
  have hts := atoms_spec (ws := wm_X13_makeCover) B.pre
  have hT : ∀ w ∈ wM, w.before ([.ref (u 0), .ref (u r1)] : List Value).toArray s = true := fun w h => hts w (List.mem_cons_of_mem _ h)
  have hown : s.vm.findClass RX13 = some m.cls := findClass_of_methodNamed B.named
  have hlocks := B.notSynchronized
  have hM : tw_M D vwCl mX q s.heap u z s.heap [] := ⟨hP, va_S.rf⟩
  have hl := lv_entry ([.ref (u 0), .ref (u r1)]) (n := 10) (Nat.le_of_ble_eq_true rfl)
  rw [lg_entry_eq]
  generalize (lg_sl ([.ref (u 0), .ref (u r1)]) ++ List.replicate (10 - (lg_sl ([.ref (u 0), .ref (u r1)])).length) Slot.unset).toArray = ls at hl ⊢
  have hl : lv_has ls 10 [(0, .ref (u 0)), (1, .ref (u r1))] := hl
  refine ow_named (fun QQ hQQ => ?_)
  generalize ([.ref (u 0), .ref (u r1)] : List Value).toArray = args at hts hT hQQ ⊢
  have key : ∀ k : Nat, (∀ (x2 : Int32) (x3 : Int32) (x4 : Int32) (x6 : Int32) (x7 : Int32) (x9 : Int32) (w4 : Int64) (w5 : Int64) (w7 : Int64) (r1 : Nat) (z : ow_MS) (H : Heap) (locs : List Loc) (ls : Array Slot), mw_net r1 → tw_M D vwCl mX q s.heap u z H locs → lv_has ls 10 [(0, .ref (u 0)), (1, .ref (u r1))] → q_X13_makeCover K k 0 x2 x3 x4 x6 x7 x9 w4 w5 w7 r1 z = some z1 → W p l e ({ frames := 2, cells := 0, slots := 0, locals := 58 } : Room) s m args below meth c H locs 0 0 QQ (F0 m 0 ls [])) ∧ (∀ (x2 : Int32) (x3 : Int32) (x4 : Int32) (x6 : Int32) (x7 : Int32) (x9 : Int32) (w4 : Int64) (w5 : Int64) (w7 : Int64) (r1 : Nat) (z : ow_MS) (H : Heap) (locs : List Loc) (ls : Array Slot), mw_net r1 → tw_M D vwCl mX q s.heap u z H locs → lv_has ls 10 [(0, .ref (u 0)), (1, .ref (u r1)), (2, .int x2), (3, .int x3)] → q_X13_makeCover K k 1 x2 x3 x4 x6 x7 x9 w4 w5 w7 r1 z = some z1 → W p l e ({ frames := 2, cells := 0, slots := 0, locals := 58 } : Room) s m args below meth c H locs 0 0 QQ (F0 m 14 ls [])) ∧ (∀ (x2 : Int32) (x3 : Int32) (x4 : Int32) (x6 : Int32) (x7 : Int32) (x9 : Int32) (w4 : Int64) (w5 : Int64) (w7 : Int64) (r1 : Nat) (z : ow_MS) (H : Heap) (locs : List Loc) (ls : Array Slot), mw_net r1 → tw_M D vwCl mX q s.heap u z H locs → lv_has ls 10 [(0, .ref (u 0)), (1, .ref (u r1)), (2, .int x2), (3, .int x3)] → q_X13_makeCover K k 2 x2 x3 x4 x6 x7 x9 w4 w5 w7 r1 z = some z1 → W p l e ({ frames := 2, cells := 0, slots := 0, locals := 58 } : Room) s m args below meth c H locs 0 0 QQ (F0 m 38 ls [])) ∧ (∀ (x2 : Int32) (x3 : Int32) (x4 : Int32) (x6 : Int32) (x7 : Int32) (x9 : Int32) (w4 : Int64) (w5 : Int64) (w7 : Int64) (r1 : Nat) (z : ow_MS) (H : Heap) (locs : List Loc) (ls : Array Slot), mw_net r1 → tw_M D vwCl mX q s.heap u z H locs → lv_has ls 10 [(0, .ref (u 0)), (1, .ref (u r1)), (2, .int x2), (3, .int x3)] → q_X13_makeCover K k 3 x2 x3 x4 x6 x7 x9 w4 w5 w7 r1 z = some z1 → W p l e ({ frames := 2, cells := 0, slots := 0, locals := 58 } : Room) s m args below meth c H locs 0 0 QQ (F0 m 113 ls [])) ∧ (∀ (x2 : Int32) (x3 : Int32) (x4 : Int32) (x6 : Int32) (x7 : Int32) (x9 : Int32) (w4 : Int64) (w5 : Int64) (w7 : Int64) (r1 : Nat) (z : ow_MS) (H : Heap) (locs : List Loc) (ls : Array Slot), mw_net r1 → tw_M D vwCl mX q s.heap u z H locs → lv_has ls 10 [(0, .ref (u 0)), (1, .ref (u r1)), (2, .int x2), (3, .int x3), (4, .int x4)] → q_X13_makeCover K k 4 x2 x3 x4 x6 x7 x9 w4 w5 w7 r1 z = some z1 → W p l e ({ frames := 2, cells := 0, slots := 0, locals := 58 } : Room) s m args below meth c H locs 0 0 QQ (F0 m 140 ls [])) ∧ (∀ (x2 : Int32) (x3 : Int32) (x4 : Int32) (x6 : Int32) (x7 : Int32) (x9 : Int32) (w4 : Int64) (w5 : Int64) (w7 : Int64) (r1 : Nat) (z : ow_MS) (H : Heap) (locs : List Loc) (ls : Array Slot), mw_net r1 → tw_M D vwCl mX q s.heap u z H locs → lv_has ls 10 [(0, .ref (u 0)), (1, .ref (u r1)), (2, .int x2), (3, .int x3), (4, .int x4), (5, .long w5), (7, .int x7)] → q_X13_makeCover K k 5 x2 x3 x4 x6 x7 x9 w4 w5 w7 r1 z = some z1 → W p l e ({ frames := 2, cells := 0, slots := 0, locals := 58 } : Room) s m args below meth c H locs 0 0 QQ (F0 m 175 ls [])) ∧ (∀ (x2 : Int32) (x3 : Int32) (x4 : Int32) (x6 : Int32) (x7 : Int32) (x9 : Int32) (w4 : Int64) (w5 : Int64) (w7 : Int64) (r1 : Nat) (z : ow_MS) (H : Heap) (locs : List Loc) (ls : Array Slot), mw_net r1 → tw_M D vwCl mX q s.heap u z H locs → lv_has ls 10 [(0, .ref (u 0)), (1, .ref (u r1)), (2, .int x2), (3, .int x3)] → q_X13_makeCover K k 6 x2 x3 x4 x6 x7 x9 w4 w5 w7 r1 z = some z1 → W p l e ({ frames := 2, cells := 0, slots := 0, locals := 58 } : Room) s m args below meth c H locs 0 0 QQ (F0 m 233 ls [])) ∧ (∀ (x2 : Int32) (x3 : Int32) (x4 : Int32) (x6 : Int32) (x7 : Int32) (x9 : Int32) (w4 : Int64) (w5 : Int64) (w7 : Int64) (r1 : Nat) (z : ow_MS) (H : Heap) (locs : List Loc) (ls : Array Slot), mw_net r1 → tw_M D vwCl mX q s.heap u z H locs → lv_has ls 10 [(0, .ref (u 0)), (1, .ref (u r1)), (2, .int x2), (3, .int x3), (4, .long w4), (6, .int x6), (7, .long w7)] → q_X13_makeCover K k 7 x2 x3 x4 x6 x7 x9 w4 w5 w7 r1 z = some z1 → W p l e ({ frames := 2, cells := 0, slots := 0, locals := 58 } : Room) s m args below meth c H locs 0 0 QQ (F0 m 258 ls [])) ∧ (∀ (x2 : Int32) (x3 : Int32) (x4 : Int32) (x6 : Int32) (x7 : Int32) (x9 : Int32) (w4 : Int64) (w5 : Int64) (w7 : Int64) (r1 : Nat) (z : ow_MS) (H : Heap) (locs : List Loc) (ls : Array Slot), mw_net r1 → tw_M D vwCl mX q s.heap u z H locs → lv_has ls 10 [(0, .ref (u 0)), (1, .ref (u r1)), (2, .int x2), (3, .int x3), (4, .long w4), (6, .int x6), (7, .long w7)] → q_X13_makeCover K k 8 x2 x3 x4 x6 x7 x9 w4 w5 w7 r1 z = some z1 → W p l e ({ frames := 2, cells := 0, slots := 0, locals := 58 } : Room) s m args below meth c H locs 0 0 QQ (F0 m 300 ls [])) ∧ (∀ (x2 : Int32) (x3 : Int32) (x4 : Int32) (x6 : Int32) (x7 : Int32) (x9 : Int32) (w4 : Int64) (w5 : Int64) (w7 : Int64) (r1 : Nat) (z : ow_MS) (H : Heap) (locs : List Loc) (ls : Array Slot), mw_net r1 → tw_M D vwCl mX q s.heap u z H locs → lv_has ls 10 [(0, .ref (u 0)), (1, .ref (u r1)), (2, .int x2), (3, .int x3), (4, .long w4), (6, .int x6), (7, .long w7), (9, .int x9)] → q_X13_makeCover K k 9 x2 x3 x4 x6 x7 x9 w4 w5 w7 r1 z = some z1 → W p l e ({ frames := 2, cells := 0, slots := 0, locals := 58 } : Room) s m args below meth c H locs 0 0 QQ (F0 m 325 ls [])) := by
    intro k
    induction k with
    | zero => exact ⟨fun _ _ _ _ _ _ _ _ _ _ _ _ _ _ _ _ _ hq => tw_no hq, fun _ _ _ _ _ _ _ _ _ _ _ _ _ _ _ _ _ hq => tw_no hq, fun _ _ _ _ _ _ _ _ _ _ _ _ _ _ _ _ _ hq => tw_no hq, fun _ _ _ _ _ _ _ _ _ _ _ _ _ _ _ _ _ hq => tw_no hq, fun _ _ _ _ _ _ _ _ _ _ _ _ _ _ _ _ _ hq => tw_no hq, fun _ _ _ _ _ _ _ _ _ _ _ _ _ _ _ _ _ hq => tw_no hq, fun _ _ _ _ _ _ _ _ _ _ _ _ _ _ _ _ _ hq => tw_no hq, fun _ _ _ _ _ _ _ _ _ _ _ _ _ _ _ _ _ hq => tw_no hq, fun _ _ _ _ _ _ _ _ _ _ _ _ _ _ _ _ _ hq => tw_no hq, fun _ _ _ _ _ _ _ _ _ _ _ _ _ _ _ _ _ hq => tw_no hq⟩
    | succ k ih =>
      obtain ⟨ih_0, ih_1, ih_2, ih_3, ih_4, ih_5, ih_6, ih_7, ih_8, ih_9⟩ := ih
      refine ⟨?_, ?_, ?_, ?_, ?_, ?_, ?_, ?_, ?_, ?_⟩
      · intro x2 x3 x4 x6 x7 x9 w4 w5 w7 r1 z H locs ls hr1 hM hl hq
        have hq : qm_X13_makeCover_0 K (q_X13_makeCover K k) x2 x3 x4 x6 x7 x9 w4 w5 w7 r1 z = some z1 := hq
        unfold qm_X13_makeCover_0 at hq
        refine lv_aload_n hx hb dmX13_makeCover_0 rfl (lv_at hl 0 rfl) ?_
        refine lv_aload_n hx hb dmX13_makeCover_1 rfl (lv_at hl 1 rfl) ?_
        obtain ⟨z1, hcq, hq⟩ := tw_cl0 hq
        refine tw_calv hM (va_runV (As := [.ref (u r1)]) (rest := []) ⟨hx, hb, hml, hown, hts⟩ (km_X13_makeArcs l D q u hU K r1 hr1 z z1 hcq) (cwV 1 hts (tw_gV wM_good wq_365 wq_366 wq_367 wq_61 wq_360) rfl rfl rfl cd_X13_makeArcs ⟨(Nat.le_of_ble_eq_true rfl), (Nat.le_of_ble_eq_true rfl)⟩) (mw_preV hK hN hM mo_0 rfl) rfl rfl hl.1 rfl (lv_room (Nat.le_of_ble_eq_true rfl)) dmX13_makeCover_2 ⟨(Nat.le_of_ble_eq_true rfl), (Nat.le_of_ble_eq_true rfl)⟩) (fun H locs hM => ?_)
        refine lv_aload_n hx hb dmX13_makeCover_5 rfl (lv_at hl 1 rfl) ?_
        refine mg13_44 hx hb hT hown hK hM hN hr1 hq dmX13_makeCover_6 (fun v2 hq => ?_)
        refine lv_iconst (v := 2) hx hb dmX13_makeCover_9 (by decide) ?_
        obtain ⟨hz, hq⟩ := tw_nzI hq
        refine lv_idiv hx hb dmX13_makeCover_10 hz ?_
        refine lv_istore_n (lv' := [(2, .int (v2 / 2)), (0, .ref (u 0)), (1, .ref (u r1))]) hx hb dmX13_makeCover_11 rfl hl (by decide) rfl (fun ls hl => ?_)
        refine lv_iconst (v := 0) hx hb dmX13_makeCover_12 (by decide) ?_
        refine lv_istore_n (lv' := [(3, .int 0), (2, .int (v2 / 2)), (0, .ref (u 0)), (1, .ref (u r1))]) hx hb dmX13_makeCover_13 rfl hl (by decide) rfl (fun ls hl => ?_)
        exact ih_1 (v2 / 2) 0 0 0 0 0 0 0 0 r1 z1 H locs ls hr1 hM (lv_sub hl [2, 3, 1, 0] rfl) hq
      · intro x2 x3 x4 x6 x7 x9 w4 w5 w7 r1 z H locs ls hr1 hM hl hq
        have hq : qm_X13_makeCover_1 K (q_X13_makeCover K k) x2 x3 x4 x6 x7 x9 w4 w5 w7 r1 z = some z1 := hq
        unfold qm_X13_makeCover_1 at hq
        refine lv_iload_n hx hb dmX13_makeCover_14 rfl (lv_at hl 3 rfl) ?_
        refine lv_aload_n hx hb dmX13_makeCover_15 rfl (lv_at hl 0 rfl) ?_
        refine mg13_247 hx hb hT hown hK hM dmX13_makeCover_16 ?_
        refine tw_alen2 mX_ok hx hb hK hM mr_64 dmX13_makeCover_19 ?_
        refine lv_icmp_ge (tgt := 36) hx hb dmX13_makeCover_20 (by decide) (fun hc => ?_) (fun hc => ?_)
        · have hq := tw_it hq hc
          refine lv_iconst (v := 0) hx hb dmX13_makeCover_36 (by decide) ?_
          refine lv_istore_n (lv' := [(3, .int 0), (0, .ref (u 0)), (1, .ref (u r1)), (2, .int x2)]) hx hb dmX13_makeCover_37 rfl hl (by decide) rfl (fun ls hl => ?_)
          exact ih_2 x2 0 0 0 0 0 0 0 0 r1 z H locs ls hr1 hM (lv_sub hl [1, 2, 3, 0] rfl) hq
        · have hq := tw_if hq hc
          refine lv_aload_n hx hb dmX13_makeCover_23 rfl (lv_at hl 0 rfl) ?_
          refine mg13_247 hx hb hT hown hK hM dmX13_makeCover_24 ?_
          refine lv_iload_n hx hb dmX13_makeCover_27 rfl (lv_at hl 3 rfl) ?_
          refine lv_lconst (v := 0) hx hb dmX13_makeCover_28 rfl ?_
          refine tw_last mX_ok hU hx hb hK hM mr_64 hq dmX13_makeCover_29 (fun z3 H locs hM hq => ?_)
          refine lv_iinc (v := (x3 + 1)) (lv' := [(3, .int (x3 + 1)), (0, .ref (u 0)), (1, .ref (u r1)), (2, .int x2)]) hx hb dmX13_makeCover_30 hl (k := 3) rfl rfl (by decide) rfl (fun ls hl => ?_)
          refine lv_goto (tgt := 14) hx hb dmX13_makeCover_33 (by decide) ?_
          exact ih_1 x2 (x3 + 1) 0 0 0 0 0 0 0 r1 z3 H locs ls hr1 hM (lv_sub hl [1, 2, 3, 0] rfl) hq
      · intro x2 x3 x4 x6 x7 x9 w4 w5 w7 r1 z H locs ls hr1 hM hl hq
        have hq : qm_X13_makeCover_2 K (q_X13_makeCover K k) x2 x3 x4 x6 x7 x9 w4 w5 w7 r1 z = some z1 := hq
        unfold qm_X13_makeCover_2 at hq
        refine lv_iload_n hx hb dmX13_makeCover_38 rfl (lv_at hl 3 rfl) ?_
        refine lv_iload_n hx hb dmX13_makeCover_39 rfl (lv_at hl 2 rfl) ?_
        refine lv_icmp_ge (tgt := 111) hx hb dmX13_makeCover_40 (by decide) (fun hc => ?_) (fun hc => ?_)
        · have hq := tw_it hq hc
          refine lv_iconst (v := 0) hx hb dmX13_makeCover_111 (by decide) ?_
          refine lv_istore_n (lv' := [(3, .int 0), (0, .ref (u 0)), (1, .ref (u r1)), (2, .int x2)]) hx hb dmX13_makeCover_112 rfl hl (by decide) rfl (fun ls hl => ?_)
          exact ih_3 x2 0 0 0 0 0 0 0 0 r1 z H locs ls hr1 hM (lv_sub hl [1, 2, 3, 0] rfl) hq
        · have hq := tw_if hq hc
          refine lv_aload_n hx hb dmX13_makeCover_43 rfl (lv_at hl 0 rfl) ?_
          refine mg13_247 hx hb hT hown hK hM dmX13_makeCover_44 ?_
          refine lv_bipush (v := 24) hx hb dmX13_makeCover_47 (by decide) ?_
          refine lv_iload_n hx hb dmX13_makeCover_49 rfl (lv_at hl 3 rfl) ?_
          refine lv_imul hx hb dmX13_makeCover_50 ?_
          refine lv_aload_n hx hb dmX13_makeCover_51 rfl (lv_at hl 0 rfl) ?_
          refine mg13_238 hx hb hT hown hK hM dmX13_makeCover_52 ?_
          refine lv_iload_n hx hb dmX13_makeCover_55 rfl (lv_at hl 3 rfl) ?_
          refine tw_iald mX_ok hx hb hK hM mr_61 hq dmX13_makeCover_56 (fun v4 hq => ?_)
          refine lv_iadd hx hb dmX13_makeCover_57 ?_
          refine lv_dup2_11 hx hb dmX13_makeCover_58 rfl rfl ?_
          refine tw_lald mX_ok hx hb hK hM mr_64 hq dmX13_makeCover_59 (fun v5 hq => ?_)
          refine lv_ldc2 (v := 2) hx hb hown (hT _ wq_362) dmX13_makeCover_60 ?_
          refine lv_ladd hx hb dmX13_makeCover_63 ?_
          refine tw_last mX_ok hU hx hb hK hM mr_64 hq dmX13_makeCover_64 (fun z6 H locs hM hq => ?_)
          refine lv_aload_n hx hb dmX13_makeCover_65 rfl (lv_at hl 0 rfl) ?_
          refine mg13_247 hx hb hT hown hK hM dmX13_makeCover_66 ?_
          refine lv_bipush (v := 24) hx hb dmX13_makeCover_69 (by decide) ?_
          refine lv_iload_n hx hb dmX13_makeCover_71 rfl (lv_at hl 3 rfl) ?_
          refine lv_imul hx hb dmX13_makeCover_72 ?_
          refine lv_aload_n hx hb dmX13_makeCover_73 rfl (lv_at hl 0 rfl) ?_
          refine mg13_241 hx hb hT hown hK hM dmX13_makeCover_74 ?_
          refine lv_iload_n hx hb dmX13_makeCover_77 rfl (lv_at hl 3 rfl) ?_
          refine tw_iald mX_ok hx hb hK hM mr_62 hq dmX13_makeCover_78 (fun v7 hq => ?_)
          refine lv_iadd hx hb dmX13_makeCover_79 ?_
          refine lv_dup2_11 hx hb dmX13_makeCover_80 rfl rfl ?_
          refine tw_lald mX_ok hx hb hK hM mr_64 hq dmX13_makeCover_81 (fun v8 hq => ?_)
          refine lv_lconst (v := 1) hx hb dmX13_makeCover_82 rfl ?_
          refine lv_lsub hx hb dmX13_makeCover_83 ?_
          refine tw_last mX_ok hU hx hb hK hM mr_64 hq dmX13_makeCover_84 (fun z9 H locs hM hq => ?_)
          refine lv_aload_n hx hb dmX13_makeCover_85 rfl (lv_at hl 0 rfl) ?_
          refine mg13_247 hx hb hT hown hK hM dmX13_makeCover_86 ?_
          refine lv_bipush (v := 24) hx hb dmX13_makeCover_89 (by decide) ?_
          refine lv_iload_n hx hb dmX13_makeCover_91 rfl (lv_at hl 3 rfl) ?_
          refine lv_imul hx hb dmX13_makeCover_92 ?_
          refine lv_aload_n hx hb dmX13_makeCover_93 rfl (lv_at hl 0 rfl) ?_
          refine mg13_244 hx hb hT hown hK hM dmX13_makeCover_94 ?_
          refine lv_iload_n hx hb dmX13_makeCover_97 rfl (lv_at hl 3 rfl) ?_
          refine tw_iald mX_ok hx hb hK hM mr_63 hq dmX13_makeCover_98 (fun v10 hq => ?_)
          refine lv_iadd hx hb dmX13_makeCover_99 ?_
          refine lv_dup2_11 hx hb dmX13_makeCover_100 rfl rfl ?_
          refine tw_lald mX_ok hx hb hK hM mr_64 hq dmX13_makeCover_101 (fun v11 hq => ?_)
          refine lv_lconst (v := 1) hx hb dmX13_makeCover_102 rfl ?_
          refine lv_lsub hx hb dmX13_makeCover_103 ?_
          refine tw_last mX_ok hU hx hb hK hM mr_64 hq dmX13_makeCover_104 (fun z12 H locs hM hq => ?_)
          refine lv_iinc (v := (x3 + 1)) (lv' := [(3, .int (x3 + 1)), (0, .ref (u 0)), (1, .ref (u r1)), (2, .int x2)]) hx hb dmX13_makeCover_105 hl (k := 3) rfl rfl (by decide) rfl (fun ls hl => ?_)
          refine lv_goto (tgt := 38) hx hb dmX13_makeCover_108 (by decide) ?_
          exact ih_2 x2 (x3 + 1) 0 0 0 0 0 0 0 r1 z12 H locs ls hr1 hM (lv_sub hl [1, 2, 3, 0] rfl) hq
      · intro x2 x3 x4 x6 x7 x9 w4 w5 w7 r1 z H locs ls hr1 hM hl hq
        have hq : qm_X13_makeCover_3 K (q_X13_makeCover K k) x2 x3 x4 x6 x7 x9 w4 w5 w7 r1 z = some z1 := hq
        unfold qm_X13_makeCover_3 at hq
        refine lv_iload_n hx hb dmX13_makeCover_113 rfl (lv_at hl 3 rfl) ?_
        refine lv_iload_n hx hb dmX13_makeCover_114 rfl (lv_at hl 2 rfl) ?_
        refine lv_icmp_ge (tgt := 233) hx hb dmX13_makeCover_115 (by decide) (fun hc => ?_) (fun hc => ?_)
        · have hq := tw_it hq hc
          exact ih_6 x2 x3 0 0 0 0 0 0 0 r1 z H locs ls hr1 hM (lv_sub hl [0, 1, 2, 3] rfl) hq
        · have hq := tw_if hq hc
          refine lv_iload_n hx hb dmX13_makeCover_118 rfl (lv_at hl 3 rfl) ?_
          refine lv_aload_n hx hb dmX13_makeCover_119 rfl (lv_at hl 0 rfl) ?_
          refine mg13_626 hx hb hT hown hK hM hq dmX13_makeCover_120 (fun v13 hq => ?_)
          refine lv_icmp_ge (tgt := 233) hx hb dmX13_makeCover_123 (by decide) (fun hc => ?_) (fun hc => ?_)
          · have hq := tw_it hq hc
            exact ih_6 x2 x3 0 0 0 0 0 0 0 r1 z H locs ls hr1 hM (lv_sub hl [0, 1, 2, 3] rfl) hq
          · have hq := tw_if hq hc
            refine lv_aload_n hx hb dmX13_makeCover_126 rfl (lv_at hl 0 rfl) ?_
            refine lv_iload_n hx hb dmX13_makeCover_127 rfl (lv_at hl 3 rfl) ?_
            refine lv_iload_n hx hb dmX13_makeCover_128 rfl (lv_at hl 2 rfl) ?_
            obtain ⟨v15, z14, hcq, hq⟩ := tw_cl1 hq
            refine tw_cali hM (va_runV (As := [.int x3, .int x2]) (rest := []) ⟨hx, hb, hml, hown, hts⟩ (km_X13_unit l D q u hU K x3 x2 z z14 v15 hcq) (cwV 2 hts (tw_gV wM_good wq_368 wq_369 wq_370 wq_61 wq_371) rfl rfl rfl cd_X13_unit ⟨(Nat.le_of_ble_eq_true rfl), (Nat.le_of_ble_eq_true rfl)⟩) (mw_preV hK hN hM mo_0 rfl) rfl rfl hl.1 rfl (lv_room (Nat.le_of_ble_eq_true rfl)) dmX13_makeCover_129 ⟨(Nat.le_of_ble_eq_true rfl), (Nat.le_of_ble_eq_true rfl)⟩) (fun H locs hM => ?_)
            refine lv_if_eq (tgt := 233) hx hb dmX13_makeCover_132 (by decide) (fun hc => ?_) (fun hc => ?_)
            · have hq := tw_it hq hc
              exact ih_6 x2 x3 0 0 0 0 0 0 0 r1 z14 H locs ls hr1 hM (lv_sub hl [0, 1, 2, 3] rfl) hq
            · have hq := tw_if hq hc
              refine lv_iload_n hx hb dmX13_makeCover_135 rfl (lv_at hl 3 rfl) ?_
              refine lv_iconst (v := 1) hx hb dmX13_makeCover_136 (by decide) ?_
              refine lv_iadd hx hb dmX13_makeCover_137 ?_
              refine lv_istore (lv' := [(4, .int (x3 + 1)), (0, .ref (u 0)), (1, .ref (u r1)), (2, .int x2), (3, .int x3)]) hx hb dmX13_makeCover_138 hl (by decide) rfl (fun ls hl => ?_)
              exact ih_4 x2 x3 (x3 + 1) 0 0 0 0 0 0 r1 z14 H locs ls hr1 hM (lv_sub hl [1, 2, 3, 4, 0] rfl) hq
      · intro x2 x3 x4 x6 x7 x9 w4 w5 w7 r1 z H locs ls hr1 hM hl hq
        have hq : qm_X13_makeCover_4 K (q_X13_makeCover K k) x2 x3 x4 x6 x7 x9 w4 w5 w7 r1 z = some z1 := hq
        unfold qm_X13_makeCover_4 at hq
        refine lv_iload hx hb dmX13_makeCover_140 (lv_at hl 4 rfl) ?_
        refine lv_iload_n hx hb dmX13_makeCover_142 rfl (lv_at hl 2 rfl) ?_
        refine lv_icmp_ge (tgt := 227) hx hb dmX13_makeCover_143 (by decide) (fun hc => ?_) (fun hc => ?_)
        · have hq := tw_it hq hc
          refine lv_iinc (v := (x3 + 1)) (lv' := [(3, .int (x3 + 1)), (0, .ref (u 0)), (1, .ref (u r1)), (2, .int x2), (4, .int x4)]) hx hb dmX13_makeCover_227 hl (k := 3) rfl rfl (by decide) rfl (fun ls hl => ?_)
          refine lv_goto (tgt := 113) hx hb dmX13_makeCover_230 (by decide) ?_
          exact ih_3 x2 (x3 + 1) 0 0 0 0 0 0 0 r1 z H locs ls hr1 hM (lv_sub hl [1, 2, 3, 0] rfl) hq
        · have hq := tw_if hq hc
          refine lv_aload_n hx hb dmX13_makeCover_146 rfl (lv_at hl 0 rfl) ?_
          refine mg13_247 hx hb hT hown hK hM dmX13_makeCover_147 ?_
          refine lv_bipush (v := 24) hx hb dmX13_makeCover_150 (by decide) ?_
          refine lv_iload hx hb dmX13_makeCover_152 (lv_at hl 4 rfl) ?_
          refine lv_imul hx hb dmX13_makeCover_154 ?_
          refine lv_iload_n hx hb dmX13_makeCover_155 rfl (lv_at hl 3 rfl) ?_
          refine lv_iadd hx hb dmX13_makeCover_156 ?_
          refine tw_lald mX_ok hx hb hK hM mr_64 hq dmX13_makeCover_157 (fun v16 hq => ?_)
          refine lv_aload_n hx hb dmX13_makeCover_158 rfl (lv_at hl 0 rfl) ?_
          refine mg13_247 hx hb hT hown hK hM dmX13_makeCover_159 ?_
          refine lv_bipush (v := 24) hx hb dmX13_makeCover_162 (by decide) ?_
          refine lv_iload_n hx hb dmX13_makeCover_164 rfl (lv_at hl 3 rfl) ?_
          refine lv_imul hx hb dmX13_makeCover_165 ?_
          refine lv_iload_n hx hb dmX13_makeCover_166 rfl (lv_at hl 3 rfl) ?_
          refine lv_iadd hx hb dmX13_makeCover_167 ?_
          refine tw_lald mX_ok hx hb hK hM mr_64 hq dmX13_makeCover_168 (fun v17 hq => ?_)
          refine lv_lmul hx hb dmX13_makeCover_169 ?_
          refine lv_lstore (lv' := [(5, .long (v16 * v17)), (0, .ref (u 0)), (1, .ref (u r1)), (2, .int x2), (3, .int x3), (4, .int x4)]) hx hb dmX13_makeCover_170 hl (by decide) rfl (fun ls hl => ?_)
          refine lv_iload_n hx hb dmX13_makeCover_172 rfl (lv_at hl 4 rfl) ?_
          refine lv_istore (lv' := [(7, .int x3), (5, .long (v16 * v17)), (0, .ref (u 0)), (1, .ref (u r1)), (2, .int x2), (3, .int x3), (4, .int x4)]) hx hb dmX13_makeCover_173 hl (by decide) rfl (fun ls hl => ?_)
          exact ih_5 x2 x3 x4 0 x3 0 0 (v16 * v17) 0 r1 z H locs ls hr1 hM (lv_sub hl [2, 3, 4, 5, 6, 1, 0] rfl) hq
      · intro x2 x3 x4 x6 x7 x9 w4 w5 w7 r1 z H locs ls hr1 hM hl hq
        have hq : qm_X13_makeCover_5 K (q_X13_makeCover K k) x2 x3 x4 x6 x7 x9 w4 w5 w7 r1 z = some z1 := hq
        unfold qm_X13_makeCover_5 at hq
        refine lv_iload hx hb dmX13_makeCover_175 (lv_at hl 6 rfl) ?_
        refine lv_aload_n hx hb dmX13_makeCover_177 rfl (lv_at hl 0 rfl) ?_
        refine mg13_626 hx hb hT hown hK hM hq dmX13_makeCover_178 (fun v18 hq => ?_)
        refine lv_icmp_ge (tgt := 221) hx hb dmX13_makeCover_181 (by decide) (fun hc => ?_) (fun hc => ?_)
        · have hq := tw_it hq hc
          refine lv_iinc (v := (x4 + 1)) (lv' := [(4, .int (x4 + 1)), (0, .ref (u 0)), (1, .ref (u r1)), (2, .int x2), (3, .int x3), (5, .long w5), (7, .int x7)]) hx hb dmX13_makeCover_221 hl (k := 4) rfl rfl (by decide) rfl (fun ls hl => ?_)
          refine lv_goto (tgt := 140) hx hb dmX13_makeCover_224 (by decide) ?_
          exact ih_4 x2 x3 (x4 + 1) 0 0 0 0 0 0 r1 z H locs ls hr1 hM (lv_sub hl [1, 2, 3, 4, 0] rfl) hq
        · have hq := tw_if hq hc
          refine lv_aload_n hx hb dmX13_makeCover_184 rfl (lv_at hl 0 rfl) ?_
          refine mg13_247 hx hb hT hown hK hM dmX13_makeCover_185 ?_
          refine lv_bipush (v := 24) hx hb dmX13_makeCover_188 (by decide) ?_
          refine lv_iload hx hb dmX13_makeCover_190 (lv_at hl 4 rfl) ?_
          refine lv_imul hx hb dmX13_makeCover_192 ?_
          refine lv_iload hx hb dmX13_makeCover_193 (lv_at hl 6 rfl) ?_
          refine lv_iadd hx hb dmX13_makeCover_195 ?_
          refine lv_dup2_11 hx hb dmX13_makeCover_196 rfl rfl ?_
          refine tw_lald mX_ok hx hb hK hM mr_64 hq dmX13_makeCover_197 (fun v19 hq => ?_)
          refine lv_lload hx hb dmX13_makeCover_198 (lv_at hl 5 rfl) ?_
          refine lv_aload_n hx hb dmX13_makeCover_200 rfl (lv_at hl 0 rfl) ?_
          refine mg13_247 hx hb hT hown hK hM dmX13_makeCover_201 ?_
          refine lv_bipush (v := 24) hx hb dmX13_makeCover_204 (by decide) ?_
          refine lv_iload_n hx hb dmX13_makeCover_206 rfl (lv_at hl 3 rfl) ?_
          refine lv_imul hx hb dmX13_makeCover_207 ?_
          refine lv_iload hx hb dmX13_makeCover_208 (lv_at hl 6 rfl) ?_
          refine lv_iadd hx hb dmX13_makeCover_210 ?_
          refine tw_lald mX_ok hx hb hK hM mr_64 hq dmX13_makeCover_211 (fun v20 hq => ?_)
          refine lv_lmul hx hb dmX13_makeCover_212 ?_
          refine lv_lsub hx hb dmX13_makeCover_213 ?_
          refine tw_last mX_ok hU hx hb hK hM mr_64 hq dmX13_makeCover_214 (fun z21 H locs hM hq => ?_)
          refine lv_iinc (v := (x7 + 1)) (lv' := [(7, .int (x7 + 1)), (0, .ref (u 0)), (1, .ref (u r1)), (2, .int x2), (3, .int x3), (4, .int x4), (5, .long w5)]) hx hb dmX13_makeCover_215 hl (k := 6) rfl rfl (by decide) rfl (fun ls hl => ?_)
          refine lv_goto (tgt := 175) hx hb dmX13_makeCover_218 (by decide) ?_
          exact ih_5 x2 x3 x4 0 (x7 + 1) 0 0 w5 0 r1 z21 H locs ls hr1 hM (lv_sub hl [1, 2, 3, 4, 5, 6, 0] rfl) hq
      · intro x2 x3 x4 x6 x7 x9 w4 w5 w7 r1 z H locs ls hr1 hM hl hq
        have hq : qm_X13_makeCover_6 K (q_X13_makeCover K k) x2 x3 x4 x6 x7 x9 w4 w5 w7 r1 z = some z1 := hq
        unfold qm_X13_makeCover_6 at hq
        refine lv_aload_n hx hb dmX13_makeCover_233 rfl (lv_at hl 0 rfl) ?_
        refine lv_iload_n hx hb dmX13_makeCover_234 rfl (lv_at hl 3 rfl) ?_
        refine lv_iload_n hx hb dmX13_makeCover_235 rfl (lv_at hl 2 rfl) ?_
        obtain ⟨z22, hcq, hq⟩ := tw_cl0 hq
        refine tw_calv hM (va_runV (As := [.int x3, .int x2]) (rest := []) ⟨hx, hb, hml, hown, hts⟩ (km_X13_leave l D q u hU K x3 x2 z z22 hcq) (cwV 2 hts (tw_gV wM_good wq_375 wq_376 wq_377 wq_61 wq_378) rfl rfl rfl cd_X13_leave ⟨(Nat.le_of_ble_eq_true rfl), (Nat.le_of_ble_eq_true rfl)⟩) (mw_preV hK hN hM mo_0 rfl) rfl rfl hl.1 rfl (lv_room (Nat.le_of_ble_eq_true rfl)) dmX13_makeCover_236 ⟨(Nat.le_of_ble_eq_true rfl), (Nat.le_of_ble_eq_true rfl)⟩) (fun H locs hM => ?_)
        refine lv_aload_n hx hb dmX13_makeCover_239 rfl (lv_at hl 0 rfl) ?_
        refine lv_iconst (v := 0) hx hb dmX13_makeCover_240 (by decide) ?_
        refine mp13_640 hx hb hT hown hK hM hU hq dmX13_makeCover_241 (fun z23 H locs hM hq => ?_)
        refine lv_lconst (v := 1) hx hb dmX13_makeCover_244 rfl ?_
        refine lv_lstore (lv' := [(4, .long 1), (0, .ref (u 0)), (1, .ref (u r1)), (2, .int x2), (3, .int x3)]) hx hb dmX13_makeCover_245 hl (by decide) rfl (fun ls hl => ?_)
        refine lv_iconst (v := 0) hx hb dmX13_makeCover_247 (by decide) ?_
        refine lv_istore (lv' := [(6, .int 0), (4, .long 1), (0, .ref (u 0)), (1, .ref (u r1)), (2, .int x2), (3, .int x3)]) hx hb dmX13_makeCover_248 hl (by decide) rfl (fun ls hl => ?_)
        refine lv_aload_n hx hb dmX13_makeCover_250 rfl (lv_at hl 2 rfl) ?_
        refine lv_iconst (v := 1) hx hb dmX13_makeCover_251 (by decide) ?_
        refine lv_lconst (v := 1) hx hb dmX13_makeCover_252 rfl ?_
        obtain ⟨v25, z24, hcq, hq⟩ := tw_cl1 hq
        refine tw_call hM (va_runV (As := [.int 1, .long 1]) (rest := []) ⟨hx, hb, hml, hown, hts⟩ (km_X13_divisor l D q u hU K 1 1 z23 z24 v25 hcq) (cwV 2 hts (tw_gV wM_good wq_383 wq_384 wq_385 wq_61 wq_386) rfl rfl rfl cd_X13_divisor ⟨(Nat.le_of_ble_eq_true rfl), (Nat.le_of_ble_eq_true rfl)⟩) (mw_preV hK hN hM mo_0 rfl) rfl rfl hl.1 rfl (lv_room (Nat.le_of_ble_eq_true rfl)) dmX13_makeCover_253 ⟨(Nat.le_of_ble_eq_true rfl), (Nat.le_of_ble_eq_true rfl)⟩) (fun H locs hM => ?_)
        refine lv_lstore (lv' := [(7, .long v25), (6, .int 0), (4, .long 1), (0, .ref (u 0)), (1, .ref (u r1)), (2, .int x2), (3, .int x3)]) hx hb dmX13_makeCover_256 hl (by decide) rfl (fun ls hl => ?_)
        exact ih_7 x2 x3 0 0 0 0 1 0 v25 r1 z24 H locs ls hr1 hM (lv_sub hl [3, 4, 5, 6, 2, 1, 0] rfl) hq
      · intro x2 x3 x4 x6 x7 x9 w4 w5 w7 r1 z H locs ls hr1 hM hl hq
        have hq : qm_X13_makeCover_7 K (q_X13_makeCover K k) x2 x3 x4 x6 x7 x9 w4 w5 w7 r1 z = some z1 := hq
        unfold qm_X13_makeCover_7 at hq
        refine lv_lload hx hb dmX13_makeCover_258 (lv_at hl 6 rfl) ?_
        refine lv_lconst (v := 0) hx hb dmX13_makeCover_260 rfl ?_
        refine W.lcmp hx hb dmX13_makeCover_261 ?_
        refine lv_if_eq (tgt := 319) hx hb dmX13_makeCover_262 (by decide) (fun hc => ?_) (fun hc => ?_)
        · have hq := tw_it hq hc
          refine lv_iload_n hx hb dmX13_makeCover_319 rfl (lv_at hl 3 rfl) ?_
          refine lv_iload hx hb dmX13_makeCover_320 (lv_at hl 5 rfl) ?_
          refine lv_iadd hx hb dmX13_makeCover_322 ?_
          refine lv_istore (lv' := [(9, .int (x3 + x6)), (0, .ref (u 0)), (1, .ref (u r1)), (2, .int x2), (3, .int x3), (4, .long w4), (6, .int x6), (7, .long w7)]) hx hb dmX13_makeCover_323 hl (by decide) rfl (fun ls hl => ?_)
          exact ih_9 x2 x3 0 x6 0 (x3 + x6) w4 0 w7 r1 z H locs ls hr1 hM (lv_sub hl [1, 2, 3, 4, 5, 6, 7, 0] rfl) hq
        · have hq := tw_if hq hc
          refine lv_iinc (v := (x6 + 1)) (lv' := [(6, .int (x6 + 1)), (0, .ref (u 0)), (1, .ref (u r1)), (2, .int x2), (3, .int x3), (4, .long w4), (7, .long w7)]) hx hb dmX13_makeCover_265 hl (k := 5) rfl rfl (by decide) rfl (fun ls hl => ?_)
          refine lv_lload hx hb dmX13_makeCover_268 (lv_at hl 6 rfl) ?_
          refine lv_lload hx hb dmX13_makeCover_270 (lv_at hl 5 rfl) ?_
          refine W.lcmp hx hb dmX13_makeCover_272 ?_
          refine lv_if_eq (tgt := 300) hx hb dmX13_makeCover_273 (by decide) (fun hc => ?_) (fun hc => ?_)
          · have hq := tw_it hq hc
            exact ih_8 x2 x3 0 (x6 + 1) 0 0 w4 0 w7 r1 z H locs ls hr1 hM (lv_sub hl [1, 2, 3, 4, 5, 0, 6] rfl) hq
          · have hq := tw_if hq hc
            refine lv_aload_n hx hb dmX13_makeCover_276 rfl (lv_at hl 1 rfl) ?_
            refine mg13_253 hx hb hT hown hK hM dmX13_makeCover_277 ?_
            refine lv_aload_n hx hb dmX13_makeCover_280 rfl (lv_at hl 1 rfl) ?_
            refine mg13_640 hx hb hT hown hK hM hq dmX13_makeCover_281 (fun v26 hq => ?_)
            refine lv_lload hx hb dmX13_makeCover_284 (lv_at hl 6 rfl) ?_
            refine lv_lload hx hb dmX13_makeCover_286 (lv_at hl 5 rfl) ?_
            obtain ⟨hz, hq⟩ := tw_nzJ hq
            refine lv_ldiv hx hb dmX13_makeCover_288 hz ?_
            refine tw_last mX_ok hU hx hb hK hM mr_66 hq dmX13_makeCover_289 (fun z27 H locs hM hq => ?_)
            refine lv_aload_n hx hb dmX13_makeCover_290 rfl (lv_at hl 1 rfl) ?_
            refine lv_dup hx hb dmX13_makeCover_291 rfl ?_
            refine mg13_640 hx hb hT hown hK hM hq dmX13_makeCover_292 (fun v28 hq => ?_)
            refine lv_iconst (v := 1) hx hb dmX13_makeCover_295 (by decide) ?_
            refine lv_iadd hx hb dmX13_makeCover_296 ?_
            refine mp13_640 hx hb hT hown hK hM hU hq dmX13_makeCover_297 (fun z29 H locs hM hq => ?_)
            exact ih_8 x2 x3 0 (x6 + 1) 0 0 w4 0 w7 r1 z29 H locs ls hr1 hM (lv_sub hl [1, 2, 3, 4, 5, 0, 6] rfl) hq
      · intro x2 x3 x4 x6 x7 x9 w4 w5 w7 r1 z H locs ls hr1 hM hl hq
        have hq : qm_X13_makeCover_8 K (q_X13_makeCover K k) x2 x3 x4 x6 x7 x9 w4 w5 w7 r1 z = some z1 := hq
        unfold qm_X13_makeCover_8 at hq
        refine lv_lload hx hb dmX13_makeCover_300 (lv_at hl 6 rfl) ?_
        refine lv_lstore (lv' := [(4, .long w7), (0, .ref (u 0)), (1, .ref (u r1)), (2, .int x2), (3, .int x3), (6, .int x6), (7, .long w7)]) hx hb dmX13_makeCover_302 hl (by decide) rfl (fun ls hl => ?_)
        refine lv_aload_n hx hb dmX13_makeCover_304 rfl (lv_at hl 1 rfl) ?_
        refine lv_iload hx hb dmX13_makeCover_305 (lv_at hl 5 rfl) ?_
        refine lv_iconst (v := 1) hx hb dmX13_makeCover_307 (by decide) ?_
        refine lv_iadd hx hb dmX13_makeCover_308 ?_
        refine lv_lload hx hb dmX13_makeCover_309 (lv_at hl 0 rfl) ?_
        obtain ⟨v31, z30, hcq, hq⟩ := tw_cl1 hq
        refine tw_call hM (va_runV (As := [.int (x6 + 1), .long w7]) (rest := []) ⟨hx, hb, hml, hown, hts⟩ (km_X13_divisor l D q u hU K (x6 + 1) w7 z z30 v31 hcq) (cwV 2 hts (tw_gV wM_good wq_383 wq_384 wq_385 wq_61 wq_386) rfl rfl rfl cd_X13_divisor ⟨(Nat.le_of_ble_eq_true rfl), (Nat.le_of_ble_eq_true rfl)⟩) (mw_preV hK hN hM mo_0 rfl) rfl rfl hl.1 rfl (lv_room (Nat.le_of_ble_eq_true rfl)) dmX13_makeCover_311 ⟨(Nat.le_of_ble_eq_true rfl), (Nat.le_of_ble_eq_true rfl)⟩) (fun H locs hM => ?_)
        refine lv_lstore (lv' := [(7, .long v31), (4, .long w7), (0, .ref (u 0)), (1, .ref (u r1)), (2, .int x2), (3, .int x3), (6, .int x6)]) hx hb dmX13_makeCover_314 hl (by decide) rfl (fun ls hl => ?_)
        refine lv_goto (tgt := 258) hx hb dmX13_makeCover_316 (by decide) ?_
        exact ih_7 x2 x3 0 x6 0 0 w7 0 v31 r1 z30 H locs ls hr1 hM (lv_sub hl [2, 3, 4, 5, 1, 6, 0] rfl) hq
      · intro x2 x3 x4 x6 x7 x9 w4 w5 w7 r1 z H locs ls hr1 hM hl hq
        have hq : qm_X13_makeCover_9 K (q_X13_makeCover K k) x2 x3 x4 x6 x7 x9 w4 w5 w7 r1 z = some z1 := hq
        unfold qm_X13_makeCover_9 at hq
        refine lv_iload hx hb dmX13_makeCover_325 (lv_at hl 7 rfl) ?_
        refine lv_aload_n hx hb dmX13_makeCover_327 rfl (lv_at hl 0 rfl) ?_
        refine mg13_626 hx hb hT hown hK hM hq dmX13_makeCover_328 (fun v32 hq => ?_)
        refine lv_iconst (v := 1) hx hb dmX13_makeCover_331 (by decide) ?_
        refine lv_isub hx hb dmX13_makeCover_332 ?_
        refine lv_icmp_ge (tgt := 362) hx hb dmX13_makeCover_333 (by decide) (fun hc => ?_) (fun hc => ?_)
        · have hq := tw_it hq hc
          exact mw_vret hx hb hr hlocks hM hq hQQ dmX13_makeCover_362
        · have hq := tw_if hq hc
          refine lv_aload_n hx hb dmX13_makeCover_336 rfl (lv_at hl 0 rfl) ?_
          refine mg13_253 hx hb hT hown hK hM dmX13_makeCover_337 ?_
          refine lv_aload_n hx hb dmX13_makeCover_340 rfl (lv_at hl 0 rfl) ?_
          refine mg13_640 hx hb hT hown hK hM hq dmX13_makeCover_341 (fun v33 hq => ?_)
          refine lv_lconst (v := 0) hx hb dmX13_makeCover_344 rfl ?_
          refine tw_last mX_ok hU hx hb hK hM mr_66 hq dmX13_makeCover_345 (fun z34 H locs hM hq => ?_)
          refine lv_aload_n hx hb dmX13_makeCover_346 rfl (lv_at hl 0 rfl) ?_
          refine lv_dup hx hb dmX13_makeCover_347 rfl ?_
          refine mg13_640 hx hb hT hown hK hM hq dmX13_makeCover_348 (fun v35 hq => ?_)
          refine lv_iconst (v := 1) hx hb dmX13_makeCover_351 (by decide) ?_
          refine lv_iadd hx hb dmX13_makeCover_352 ?_
          refine mp13_640 hx hb hT hown hK hM hU hq dmX13_makeCover_353 (fun z36 H locs hM hq => ?_)
          refine lv_iinc (v := (x9 + 1)) (lv' := [(9, .int (x9 + 1)), (0, .ref (u 0)), (1, .ref (u r1)), (2, .int x2), (3, .int x3), (4, .long w4), (6, .int x6), (7, .long w7)]) hx hb dmX13_makeCover_356 hl (k := 7) rfl rfl (by decide) rfl (fun ls hl => ?_)
          refine lv_goto (tgt := 325) hx hb dmX13_makeCover_359 (by decide) ?_
          exact ih_9 x2 x3 0 x6 0 (x9 + 1) w4 0 w7 r1 z36 H locs ls hr1 hM (lv_sub hl [1, 2, 3, 4, 5, 6, 7, 0] rfl) hq
  exact (key K).1 0 0 0 0 0 0 0 0 0 r1 z s.heap [] ls hr1 hM (lv_sub hl [0, 1] rfl) hq
theorem dmX13_coverOf_0 : decode cX13_coverOf 0 = .ok (.aload_n 0, 1) := dw_at cX13_coverOf_k0 (p := 0) rfl (by decide +kernel)
theorem dmX13_coverOf_1 : decode cX13_coverOf 1 = .ok (.getfield 110, 3) := dw_at cX13_coverOf_k0 (p := 1) rfl (by decide +kernel)
theorem dmX13_coverOf_4 : decode cX13_coverOf 4 = .ok (.bipush 32, 2) := dw_at cX13_coverOf_k0 (p := 4) rfl (by decide +kernel)
theorem dmX13_coverOf_6 : decode cX13_coverOf 6 = .ok (.iload_n 1, 1) := dw_at cX13_coverOf_k0 (p := 6) rfl (by decide +kernel)
theorem dmX13_coverOf_7 : decode cX13_coverOf 7 = .ok (.imul, 1) := dw_at cX13_coverOf_k0 (p := 7) rfl (by decide +kernel)
theorem dmX13_coverOf_8 : decode cX13_coverOf 8 = .ok (.aload_n 0, 1) := dw_at cX13_coverOf_k0 (p := 8) rfl (by decide +kernel)
theorem dmX13_coverOf_9 : decode cX13_coverOf 9 = .ok (.getfield 250, 3) := dw_at cX13_coverOf_k0 (p := 9) rfl (by decide +kernel)
theorem dmX13_coverOf_12 : decode cX13_coverOf 12 = .ok (.iconst 0, 1) := dw_at cX13_coverOf_k0 (p := 12) rfl (by decide +kernel)
theorem dmX13_coverOf_13 : decode cX13_coverOf 13 = .ok (.invokestatic 445, 3) := dw_at cX13_coverOf_k0 (p := 13) rfl (by decide +kernel)
theorem dmX13_coverOf_16 : decode cX13_coverOf 16 = .ok (.ifCond .ne 51, 3) := dw_at cX13_coverOf_k0 (p := 16) rfl (by decide +kernel)
theorem dmX13_coverOf_19 : decode cX13_coverOf 19 = .ok (.aload_n 0, 1) := dw_at cX13_coverOf_k0 (p := 19) rfl (by decide +kernel)
theorem dmX13_coverOf_20 : decode cX13_coverOf 20 = .ok (.iload_n 1, 1) := dw_at cX13_coverOf_k0 (p := 20) rfl (by decide +kernel)
theorem dmX13_coverOf_21 : decode cX13_coverOf 21 = .ok (.aload_n 0, 1) := dw_at cX13_coverOf_k0 (p := 21) rfl (by decide +kernel)
theorem dmX13_coverOf_22 : decode cX13_coverOf 22 = .ok (.getfield 114, 3) := dw_at cX13_coverOf_k0 (p := 22) rfl (by decide +kernel)
theorem dmX13_coverOf_25 : decode cX13_coverOf 25 = .ok (.invokevirtual 434, 3) := dw_at cX13_coverOf_k1 (p := 0) rfl (by decide +kernel)
theorem dmX13_coverOf_28 : decode cX13_coverOf 28 = .ok (.aload_n 0, 1) := dw_at cX13_coverOf_k1 (p := 3) rfl (by decide +kernel)
theorem dmX13_coverOf_29 : decode cX13_coverOf 29 = .ok (.aload_n 0, 1) := dw_at cX13_coverOf_k1 (p := 4) rfl (by decide +kernel)
theorem dmX13_coverOf_30 : decode cX13_coverOf 30 = .ok (.getfield 114, 3) := dw_at cX13_coverOf_k1 (p := 5) rfl (by decide +kernel)
theorem dmX13_coverOf_33 : decode cX13_coverOf 33 = .ok (.invokevirtual 665, 3) := dw_at cX13_coverOf_k1 (p := 8) rfl (by decide +kernel)
theorem dmX13_coverOf_36 : decode cX13_coverOf 36 = .ok (.iconst 0, 1) := dw_at cX13_coverOf_k1 (p := 11) rfl (by decide +kernel)
theorem dmX13_coverOf_37 : decode cX13_coverOf 37 = .ok (.istore_n 2, 1) := dw_at cX13_coverOf_k1 (p := 12) rfl (by decide +kernel)
theorem dmX13_coverOf_38 : decode cX13_coverOf 38 = .ok (.iload_n 2, 1) := dw_at cX13_coverOf_k1 (p := 13) rfl (by decide +kernel)
theorem dmX13_coverOf_39 : decode cX13_coverOf 39 = .ok (.bipush 32, 2) := dw_at cX13_coverOf_k1 (p := 14) rfl (by decide +kernel)
theorem dmX13_coverOf_41 : decode cX13_coverOf 41 = .ok (.if_icmp .ge 26, 3) := dw_at cX13_coverOf_k1 (p := 16) rfl (by decide +kernel)
theorem dmX13_coverOf_44 : decode cX13_coverOf 44 = .ok (.aload_n 0, 1) := dw_at cX13_coverOf_k1 (p := 19) rfl (by decide +kernel)
theorem dmX13_coverOf_45 : decode cX13_coverOf 45 = .ok (.getfield 250, 3) := dw_at cX13_coverOf_k1 (p := 20) rfl (by decide +kernel)
theorem dmX13_coverOf_48 : decode cX13_coverOf 48 = .ok (.iload_n 2, 1) := dw_at cX13_coverOf_k1 (p := 23) rfl (by decide +kernel)
theorem dmX13_coverOf_49 : decode cX13_coverOf 49 = .ok (.aload_n 0, 1) := dw_at cX13_coverOf_k2 (p := 0) rfl (by decide +kernel)
theorem dmX13_coverOf_50 : decode cX13_coverOf 50 = .ok (.getfield 110, 3) := dw_at cX13_coverOf_k2 (p := 1) rfl (by decide +kernel)
theorem dmX13_coverOf_53 : decode cX13_coverOf 53 = .ok (.bipush 32, 2) := dw_at cX13_coverOf_k2 (p := 4) rfl (by decide +kernel)
theorem dmX13_coverOf_55 : decode cX13_coverOf 55 = .ok (.iload_n 1, 1) := dw_at cX13_coverOf_k2 (p := 6) rfl (by decide +kernel)
theorem dmX13_coverOf_56 : decode cX13_coverOf 56 = .ok (.imul, 1) := dw_at cX13_coverOf_k2 (p := 7) rfl (by decide +kernel)
theorem dmX13_coverOf_57 : decode cX13_coverOf 57 = .ok (.iload_n 2, 1) := dw_at cX13_coverOf_k2 (p := 8) rfl (by decide +kernel)
theorem dmX13_coverOf_58 : decode cX13_coverOf 58 = .ok (.iadd, 1) := dw_at cX13_coverOf_k2 (p := 9) rfl (by decide +kernel)
theorem dmX13_coverOf_59 : decode cX13_coverOf 59 = .ok (.iaload, 1) := dw_at cX13_coverOf_k2 (p := 10) rfl (by decide +kernel)
theorem dmX13_coverOf_60 : decode cX13_coverOf 60 = .ok (.iastore, 1) := dw_at cX13_coverOf_k2 (p := 11) rfl (by decide +kernel)
theorem dmX13_coverOf_61 : decode cX13_coverOf 61 = .ok (.iinc 2 1, 3) := dw_at cX13_coverOf_k2 (p := 12) rfl (by decide +kernel)
theorem dmX13_coverOf_64 : decode cX13_coverOf 64 = .ok (.goto (-26), 3) := dw_at cX13_coverOf_k2 (p := 15) rfl (by decide +kernel)
theorem dmX13_coverOf_67 : decode cX13_coverOf 67 = .ok (.return_, 1) := dw_at cX13_coverOf_k2 (p := 18) rfl (by decide +kernel)
def qm_X13_coverOf_0 (K : Nat) (go : Nat → Int32 → Int32 → ow_MS → Option ow_MS) (x1 : Int32) (x2 : Int32) (z : ow_MS) : Option ow_MS :=
 cs1 (qe_X13_isSame K 12 (32 * x1) 65 0 z) fun v2 z1 => (if v2 = 0 then cs0 (qe_X13_open K x1 1000 z1) fun z3 => cs0 (qe_X13_makeCover K 1000 z3) fun z4 => go 1 x1 0 z4
 else some z1)
def qm_X13_coverOf_1 (K : Nat) (go : Nat → Int32 → Int32 → ow_MS → Option ow_MS) (x1 : Int32) (x2 : Int32) (z : ow_MS) : Option ow_MS :=
 (if 32 ≤ x2 then some z
 else rdI mX z 12 ((32 * x1) + x2) fun v5 => wrI mX z 65 x2 v5 fun z6 => go 1 x1 (x2 + 1) z6)
def qb_X13_coverOf (K : Nat) (go : Nat → Int32 → Int32 → ow_MS → Option ow_MS) (L : Nat) (x1 : Int32) (x2 : Int32) (z : ow_MS) : Option ow_MS := match L with
  | 0 => qm_X13_coverOf_0 K go x1 x2 z
  | 1 => qm_X13_coverOf_1 K go x1 x2 z
  | _ => none
def q_X13_coverOf (K : Nat) : Nat → Nat → Int32 → Int32 → ow_MS → Option ow_MS
  | 0 => fun _ _ _ _ => none
  | k + 1 => qb_X13_coverOf K (q_X13_coverOf K k)
def qe_X13_coverOf (K : Nat) (x1 : Int32) (z : ow_MS) : Option ow_MS := q_X13_coverOf K K 0 x1 0 z
abbrev wm_X13_coverOf : List Cond := .code yX13_coverOf cX13_coverOf 3 none :: wM
theorem cd_X13_coverOf : yX13_coverOf.cls = RX13 ∧ yX13_coverOf.cls ≠ "java/lang/invoke/MethodHandle" ∧ yX13_coverOf.cls ≠ "java/lang/invoke/VarHandle" ∧ (parseMethodDescriptor yX13_coverOf.desc).map (fun d => d.parameters.length) = some 1 := by decide +kernel
set_option maxHeartbeats 4000000 in
set_option maxRecDepth 100000 in
theorem km_X13_coverOf (l : Launch) (D : va_G) (q : ow_Q5) (u : Nat → Nat) (hU : tw_inj mX u) (K : Nat) (x1 : Int32)  (z z1 : ow_MS) (hq : qe_X13_coverOf K x1 z = some z1) : Met l yX13_coverOf wm_X13_coverOf ({ frames := 3, cells := 0, slots := 0, locals := 87 } : Room) (va_Pc [.ref (u 0), .int x1] (mw_pre D q u z)) (va_Qv (fun (_ : Unit) => True) (fun _ t => va_P D vwCl (tw mX q u z1) t.heap) (tw_A mX u)) 0 0 (tw_A mX u) := by
  refine Met.ofW (cc := cX13_coverOf) (maxL := 3) (ret := none) (by decide) rfl ?_
  intro p e s m args below meth c s₁ B hml hv
  obtain ⟨rfl, hP, hK, hN⟩ := hv
  have hx := B.exec
  have hb := B.bytes
  have hr := B.returns
  have hts := atoms_spec (ws := wm_X13_coverOf) B.pre
  have hT : ∀ w ∈ wM, w.before ([.ref (u 0), .int x1] : List Value).toArray s = true := fun w h => hts w (List.mem_cons_of_mem _ h)
  have hown : s.vm.findClass RX13 = some m.cls := findClass_of_methodNamed B.named
  have hlocks := B.notSynchronized
  have hM : tw_M D vwCl mX q s.heap u z s.heap [] := ⟨hP, va_S.rf⟩
  have hl := lv_entry ([.ref (u 0), .int x1]) (n := 3) (Nat.le_of_ble_eq_true rfl)
  rw [lg_entry_eq]
  generalize (lg_sl ([.ref (u 0), .int x1]) ++ List.replicate (3 - (lg_sl ([.ref (u 0), .int x1])).length) Slot.unset).toArray = ls at hl ⊢
  have hl : lv_has ls 3 [(0, .ref (u 0)), (1, .int x1)] := hl
  refine ow_named (fun QQ hQQ => ?_)
  generalize ([.ref (u 0), .int x1] : List Value).toArray = args at hts hT hQQ ⊢
  have key : ∀ k : Nat, (∀ (x1 : Int32) (x2 : Int32) (z : ow_MS) (H : Heap) (locs : List Loc) (ls : Array Slot), tw_M D vwCl mX q s.heap u z H locs → lv_has ls 3 [(0, .ref (u 0)), (1, .int x1)] → q_X13_coverOf K k 0 x1 x2 z = some z1 → W p l e ({ frames := 3, cells := 0, slots := 0, locals := 87 } : Room) s m args below meth c H locs 0 0 QQ (F0 m 0 ls [])) ∧ (∀ (x1 : Int32) (x2 : Int32) (z : ow_MS) (H : Heap) (locs : List Loc) (ls : Array Slot), tw_M D vwCl mX q s.heap u z H locs → lv_has ls 3 [(0, .ref (u 0)), (1, .int x1), (2, .int x2)] → q_X13_coverOf K k 1 x1 x2 z = some z1 → W p l e ({ frames := 3, cells := 0, slots := 0, locals := 87 } : Room) s m args below meth c H locs 0 0 QQ (F0 m 38 ls [])) := by
    intro k
    induction k with
    | zero => exact ⟨fun _ _ _ _ _ _  _ _ hq => tw_no hq, fun _ _ _ _ _ _  _ _ hq => tw_no hq⟩
    | succ k ih =>
      obtain ⟨ih_0, ih_1⟩ := ih
      refine ⟨?_, ?_⟩
      · intro x1 x2 z H locs ls  hM hl hq
        have hq : qm_X13_coverOf_0 K (q_X13_coverOf K k) x1 x2 z = some z1 := hq
        unfold qm_X13_coverOf_0 at hq
        refine lv_aload_n hx hb dmX13_coverOf_0 rfl (lv_at hl 0 rfl) ?_
        refine mg13_110 hx hb hT hown hK hM dmX13_coverOf_1 ?_
        refine lv_bipush (v := 32) hx hb dmX13_coverOf_4 (by decide) ?_
        refine lv_iload_n hx hb dmX13_coverOf_6 rfl (lv_at hl 1 rfl) ?_
        refine lv_imul hx hb dmX13_coverOf_7 ?_
        refine lv_aload_n hx hb dmX13_coverOf_8 rfl (lv_at hl 0 rfl) ?_
        refine mg13_250 hx hb hT hown hK hM dmX13_coverOf_9 ?_
        refine lv_iconst (v := 0) hx hb dmX13_coverOf_12 (by decide) ?_
        obtain ⟨v2, z1, hcq, hq⟩ := tw_cl1 hq
        refine tw_cali hM (va_runS (As := [.ref (u 12), .int (32 * x1), .ref (u 65), .int 0]) (rest := []) ⟨hx, hb, hml, hown, hts⟩ (km_X13_isSame l D q u hU K 12 (32 * x1) 65 0 mr_12 mr_65 z z1 v2 hcq) (va_cwS 4 hts (tw_gS wM_good wq_149 wq_150 wq_61 wq_74) rfl rfl rfl cd_X13_isSame ⟨(Nat.le_of_ble_eq_true rfl), (Nat.le_of_ble_eq_true rfl)⟩) (mw_preS hK hN hM) rfl rfl hl.1 rfl (lv_room (Nat.le_of_ble_eq_true rfl)) dmX13_coverOf_13 ⟨(Nat.le_of_ble_eq_true rfl), (Nat.le_of_ble_eq_true rfl)⟩) (fun H locs hM => ?_)
        refine lv_if_ne (tgt := 67) hx hb dmX13_coverOf_16 (by decide) (fun hc => ?_) (fun hc => ?_)
        · have hq := tw_if hq hc
          exact mw_vret hx hb hr hlocks hM hq hQQ dmX13_coverOf_67
        · have hq := tw_it hq hc
          refine lv_aload_n hx hb dmX13_coverOf_19 rfl (lv_at hl 0 rfl) ?_
          refine lv_iload_n hx hb dmX13_coverOf_20 rfl (lv_at hl 1 rfl) ?_
          refine lv_aload_n hx hb dmX13_coverOf_21 rfl (lv_at hl 0 rfl) ?_
          refine mg13_114 hx hb hT hown hK hM dmX13_coverOf_22 ?_
          obtain ⟨z3, hcq, hq⟩ := tw_cl0 hq
          refine tw_calv hM (va_runV (As := [.int x1, .ref (u 1000)]) (rest := []) ⟨hx, hb, hml, hown, hts⟩ (km_X13_open l D q u hU K x1 1000 mw_n1 z1 z3 hcq) (cwV 2 hts (tw_gV wM_good wq_138 wq_139 wq_140 wq_61 wq_136) rfl rfl rfl cd_X13_open ⟨(Nat.le_of_ble_eq_true rfl), (Nat.le_of_ble_eq_true rfl)⟩) (mw_preV hK hN hM mo_0 rfl) rfl rfl hl.1 rfl (lv_room (Nat.le_of_ble_eq_true rfl)) dmX13_coverOf_25 ⟨(Nat.le_of_ble_eq_true rfl), (Nat.le_of_ble_eq_true rfl)⟩) (fun H locs hM => ?_)
          refine lv_aload_n hx hb dmX13_coverOf_28 rfl (lv_at hl 0 rfl) ?_
          refine lv_aload_n hx hb dmX13_coverOf_29 rfl (lv_at hl 0 rfl) ?_
          refine mg13_114 hx hb hT hown hK hM dmX13_coverOf_30 ?_
          obtain ⟨z4, hcq, hq⟩ := tw_cl0 hq
          refine tw_calv hM (va_runV (As := [.ref (u 1000)]) (rest := []) ⟨hx, hb, hml, hown, hts⟩ (km_X13_makeCover l D q u hU K 1000 mw_n1 z3 z4 hcq) (cwV 1 hts (tw_gV wM_good wq_397 wq_398 wq_399 wq_61 wq_395) rfl rfl rfl cd_X13_makeCover ⟨(Nat.le_of_ble_eq_true rfl), (Nat.le_of_ble_eq_true rfl)⟩) (mw_preV hK hN hM mo_0 rfl) rfl rfl hl.1 rfl (lv_room (Nat.le_of_ble_eq_true rfl)) dmX13_coverOf_33 ⟨(Nat.le_of_ble_eq_true rfl), (Nat.le_of_ble_eq_true rfl)⟩) (fun H locs hM => ?_)
          refine lv_iconst (v := 0) hx hb dmX13_coverOf_36 (by decide) ?_
          refine lv_istore_n (lv' := [(2, .int 0), (0, .ref (u 0)), (1, .int x1)]) hx hb dmX13_coverOf_37 rfl hl (by decide) rfl (fun ls hl => ?_)
          exact ih_1 x1 0 z4 H locs ls hM (lv_sub hl [1, 2, 0] rfl) hq
      · intro x1 x2 z H locs ls  hM hl hq
        have hq : qm_X13_coverOf_1 K (q_X13_coverOf K k) x1 x2 z = some z1 := hq
        unfold qm_X13_coverOf_1 at hq
        refine lv_iload_n hx hb dmX13_coverOf_38 rfl (lv_at hl 2 rfl) ?_
        refine lv_bipush (v := 32) hx hb dmX13_coverOf_39 (by decide) ?_
        refine lv_icmp_ge (tgt := 67) hx hb dmX13_coverOf_41 (by decide) (fun hc => ?_) (fun hc => ?_)
        · have hq := tw_it hq hc
          exact mw_vret hx hb hr hlocks hM hq hQQ dmX13_coverOf_67
        · have hq := tw_if hq hc
          refine lv_aload_n hx hb dmX13_coverOf_44 rfl (lv_at hl 0 rfl) ?_
          refine mg13_250 hx hb hT hown hK hM dmX13_coverOf_45 ?_
          refine lv_iload_n hx hb dmX13_coverOf_48 rfl (lv_at hl 2 rfl) ?_
          refine lv_aload_n hx hb dmX13_coverOf_49 rfl (lv_at hl 0 rfl) ?_
          refine mg13_110 hx hb hT hown hK hM dmX13_coverOf_50 ?_
          refine lv_bipush (v := 32) hx hb dmX13_coverOf_53 (by decide) ?_
          refine lv_iload_n hx hb dmX13_coverOf_55 rfl (lv_at hl 1 rfl) ?_
          refine lv_imul hx hb dmX13_coverOf_56 ?_
          refine lv_iload_n hx hb dmX13_coverOf_57 rfl (lv_at hl 2 rfl) ?_
          refine lv_iadd hx hb dmX13_coverOf_58 ?_
          refine tw_iald mX_ok hx hb hK hM mr_12 hq dmX13_coverOf_59 (fun v5 hq => ?_)
          refine tw_iast mX_ok hU hx hb hK hM mr_65 hq dmX13_coverOf_60 (fun z6 H locs hM hq => ?_)
          refine lv_iinc (v := (x2 + 1)) (lv' := [(2, .int (x2 + 1)), (0, .ref (u 0)), (1, .int x1)]) hx hb dmX13_coverOf_61 hl (k := 2) rfl rfl (by decide) rfl (fun ls hl => ?_)
          refine lv_goto (tgt := 38) hx hb dmX13_coverOf_64 (by decide) ?_
          exact ih_1 x1 (x2 + 1) z6 H locs ls hM (lv_sub hl [1, 2, 0] rfl) hq
  exact (key K).1 x1 0 z s.heap [] ls  hM (lv_sub hl [0, 1] rfl) hq
theorem dmX13_cover_0 : decode cX13_cover 0 = .ok (.aload_n 0, 1) := dw_at cX13_cover_k0 (p := 0) rfl (by decide +kernel)
theorem dmX13_cover_1 : decode cX13_cover 1 = .ok (.iconst 0, 1) := dw_at cX13_cover_k0 (p := 1) rfl (by decide +kernel)
theorem dmX13_cover_2 : decode cX13_cover 2 = .ok (.putfield 1, 3) := dw_at cX13_cover_k0 (p := 2) rfl (by decide +kernel)
theorem dmX13_cover_5 : decode cX13_cover 5 = .ok (.aload_n 0, 1) := dw_at cX13_cover_k0 (p := 5) rfl (by decide +kernel)
theorem dmX13_cover_6 : decode cX13_cover 6 = .ok (.iload_n 1, 1) := dw_at cX13_cover_k0 (p := 6) rfl (by decide +kernel)
theorem dmX13_cover_7 : decode cX13_cover 7 = .ok (.invokevirtual 423, 3) := dw_at cX13_cover_k0 (p := 7) rfl (by decide +kernel)
theorem dmX13_cover_10 : decode cX13_cover 10 = .ok (.ifCond .ne 9, 3) := dw_at cX13_cover_k0 (p := 10) rfl (by decide +kernel)
theorem dmX13_cover_13 : decode cX13_cover 13 = .ok (.aload_n 0, 1) := dw_at cX13_cover_k0 (p := 13) rfl (by decide +kernel)
theorem dmX13_cover_14 : decode cX13_cover 14 = .ok (.iconst 1, 1) := dw_at cX13_cover_k0 (p := 14) rfl (by decide +kernel)
theorem dmX13_cover_15 : decode cX13_cover 15 = .ok (.invokevirtual 403, 3) := dw_at cX13_cover_k0 (p := 15) rfl (by decide +kernel)
theorem dmX13_cover_18 : decode cX13_cover 18 = .ok (.ireturn, 1) := dw_at cX13_cover_k0 (p := 18) rfl (by decide +kernel)
theorem dmX13_cover_19 : decode cX13_cover 19 = .ok (.aload_n 0, 1) := dw_at cX13_cover_k0 (p := 19) rfl (by decide +kernel)
theorem dmX13_cover_20 : decode cX13_cover 20 = .ok (.iload_n 1, 1) := dw_at cX13_cover_k0 (p := 20) rfl (by decide +kernel)
theorem dmX13_cover_21 : decode cX13_cover 21 = .ok (.invokevirtual 668, 3) := dw_at cX13_cover_k0 (p := 21) rfl (by decide +kernel)
theorem dmX13_cover_24 : decode cX13_cover 24 = .ok (.iload_n 2, 1) := dw_at cX13_cover_k1 (p := 0) rfl (by decide +kernel)
theorem dmX13_cover_25 : decode cX13_cover 25 = .ok (.ifCond .lt 11, 3) := dw_at cX13_cover_k1 (p := 1) rfl (by decide +kernel)
theorem dmX13_cover_28 : decode cX13_cover 28 = .ok (.iload_n 2, 1) := dw_at cX13_cover_k1 (p := 4) rfl (by decide +kernel)
theorem dmX13_cover_29 : decode cX13_cover 29 = .ok (.aload_n 0, 1) := dw_at cX13_cover_k1 (p := 5) rfl (by decide +kernel)
theorem dmX13_cover_30 : decode cX13_cover 30 = .ok (.getfield 640, 3) := dw_at cX13_cover_k1 (p := 6) rfl (by decide +kernel)
theorem dmX13_cover_33 : decode cX13_cover 33 = .ok (.if_icmp .lt 7, 3) := dw_at cX13_cover_k1 (p := 9) rfl (by decide +kernel)
theorem dmX13_cover_36 : decode cX13_cover 36 = .ok (.iconst (-1), 1) := dw_at cX13_cover_k1 (p := 12) rfl (by decide +kernel)
theorem dmX13_cover_37 : decode cX13_cover 37 = .ok (.goto 10, 3) := dw_at cX13_cover_k1 (p := 13) rfl (by decide +kernel)
theorem dmX13_cover_40 : decode cX13_cover 40 = .ok (.aload_n 0, 1) := dw_at cX13_cover_k1 (p := 16) rfl (by decide +kernel)
theorem dmX13_cover_41 : decode cX13_cover 41 = .ok (.getfield 253, 3) := dw_at cX13_cover_k1 (p := 17) rfl (by decide +kernel)
theorem dmX13_cover_44 : decode cX13_cover 44 = .ok (.iload_n 2, 1) := dw_at cX13_cover_k1 (p := 20) rfl (by decide +kernel)
theorem dmX13_cover_45 : decode cX13_cover 45 = .ok (.laload, 1) := dw_at cX13_cover_k1 (p := 21) rfl (by decide +kernel)
theorem dmX13_cover_46 : decode cX13_cover 46 = .ok (.l2i, 1) := dw_at cX13_cover_k1 (p := 22) rfl (by decide +kernel)
theorem dmX13_cover_47 : decode cX13_cover 47 = .ok (.ireturn, 1) := dw_at cX13_cover_k1 (p := 23) rfl (by decide +kernel)
def qm_X13_cover_0 (K : Nat) (go : Nat → Int32 → Int32 → ow_MS → Option (Int32 × ow_MS)) (x1 : Int32) (x2 : Int32) (z : ow_MS) : Option (Int32 × ow_MS) :=
 wrF z 1 0 fun z1 => cs1 (qe_X13_has K x1 z1) fun v3 z2 => (if v3 = 0 then cs1 (qe_X13_fails K 1 z2) fun v8 z7 => some (v8, z7)
 else cs0 (qe_X13_coverOf K x1 z2) fun z4 => (if x2 < 0 then go 1 x1 x2 z4
 else rdF z4 67 fun v5 => (if x2 < v5 then rdJ mX z4 66 x2 fun v6 => some (v6.toInt32, z4)
 else go 1 x1 x2 z4)))
def qm_X13_cover_1 (K : Nat) (go : Nat → Int32 → Int32 → ow_MS → Option (Int32 × ow_MS)) (x1 : Int32) (x2 : Int32) (z : ow_MS) : Option (Int32 × ow_MS) :=
 some ((-1), z)
def qb_X13_cover (K : Nat) (go : Nat → Int32 → Int32 → ow_MS → Option (Int32 × ow_MS)) (L : Nat) (x1 : Int32) (x2 : Int32) (z : ow_MS) : Option (Int32 × ow_MS) := match L with
  | 0 => qm_X13_cover_0 K go x1 x2 z
  | 1 => qm_X13_cover_1 K go x1 x2 z
  | _ => none
def q_X13_cover (K : Nat) : Nat → Nat → Int32 → Int32 → ow_MS → Option (Int32 × ow_MS)
  | 0 => fun _ _ _ _ => none
  | k + 1 => qb_X13_cover K (q_X13_cover K k)
def qe_X13_cover (K : Nat) (x1 : Int32) (x2 : Int32) (z : ow_MS) : Option (Int32 × ow_MS) := q_X13_cover K K 0 x1 x2 z
abbrev wm_X13_cover : List Cond := .code yX13_cover cX13_cover 3 (some .int) :: wM
theorem cd_X13_cover : yX13_cover.cls = RX13 ∧ yX13_cover.cls ≠ "java/lang/invoke/MethodHandle" ∧ yX13_cover.cls ≠ "java/lang/invoke/VarHandle" ∧ (parseMethodDescriptor yX13_cover.desc).map (fun d => d.parameters.length) = some 2 := by decide +kernel
set_option maxHeartbeats 4000000 in
set_option maxRecDepth 100000 in
theorem km_X13_cover (l : Launch) (D : va_G) (q : ow_Q5) (u : Nat → Nat) (hU : tw_inj mX u) (K : Nat) (x1 : Int32) (x2 : Int32)  (z z1 : ow_MS) (r : Int32) (hq : qe_X13_cover K x1 x2 z = some (r, z1)) : Met l yX13_cover wm_X13_cover ({ frames := 4, cells := 0, slots := 0, locals := 109 } : Room) (va_Pc [.ref (u 0), .int x1, .int x2] (mw_pre D q u z)) (va_Qi (fun x (_ : Unit) => x = r) (fun _ t => va_P D vwCl (tw mX q u z1) t.heap) (tw_A mX u)) 0 0 (tw_A mX u) := by
  refine Met.ofW (cc := cX13_cover) (maxL := 3) (ret := (some .int)) (by decide) rfl ?_
  intro p e s m args below meth c s₁ B hml hv
  obtain ⟨rfl, hP, hK, hN⟩ := hv
  have hx := B.exec
  have hb := B.bytes
  have hr := B.returns
  have hts := atoms_spec (ws := wm_X13_cover) B.pre
  have hT : ∀ w ∈ wM, w.before ([.ref (u 0), .int x1, .int x2] : List Value).toArray s = true := fun w h => hts w (List.mem_cons_of_mem _ h)
  have hown : s.vm.findClass RX13 = some m.cls := findClass_of_methodNamed B.named
  have hlocks := B.notSynchronized
  have hM : tw_M D vwCl mX q s.heap u z s.heap [] := ⟨hP, va_S.rf⟩
  have hl := lv_entry ([.ref (u 0), .int x1, .int x2]) (n := 3) (Nat.le_of_ble_eq_true rfl)
  rw [lg_entry_eq]
  generalize (lg_sl ([.ref (u 0), .int x1, .int x2]) ++ List.replicate (3 - (lg_sl ([.ref (u 0), .int x1, .int x2])).length) Slot.unset).toArray = ls at hl ⊢
  have hl : lv_has ls 3 [(0, .ref (u 0)), (1, .int x1), (2, .int x2)] := hl
  refine ow_named (fun QQ hQQ => ?_)
  generalize ([.ref (u 0), .int x1, .int x2] : List Value).toArray = args at hts hT hQQ ⊢
  have key : ∀ k : Nat, (∀ (x1 : Int32) (x2 : Int32) (z : ow_MS) (H : Heap) (locs : List Loc) (ls : Array Slot), tw_M D vwCl mX q s.heap u z H locs → lv_has ls 3 [(0, .ref (u 0)), (1, .int x1), (2, .int x2)] → q_X13_cover K k 0 x1 x2 z = some (r, z1) → W p l e ({ frames := 4, cells := 0, slots := 0, locals := 109 } : Room) s m args below meth c H locs 0 0 QQ (F0 m 0 ls [])) ∧ (∀ (x1 : Int32) (x2 : Int32) (z : ow_MS) (H : Heap) (locs : List Loc) (ls : Array Slot), tw_M D vwCl mX q s.heap u z H locs → lv_has ls 3 [(0, .ref (u 0)), (1, .int x1), (2, .int x2)] → q_X13_cover K k 1 x1 x2 z = some (r, z1) → W p l e ({ frames := 4, cells := 0, slots := 0, locals := 109 } : Room) s m args below meth c H locs 0 0 QQ (F0 m 36 ls [])) := by
    intro k
    induction k with
    | zero => exact ⟨fun _ _ _ _ _ _  _ _ hq => tw_no hq, fun _ _ _ _ _ _  _ _ hq => tw_no hq⟩
    | succ k ih =>
      obtain ⟨ih_0, ih_1⟩ := ih
      refine ⟨?_, ?_⟩
      · intro x1 x2 z H locs ls  hM hl hq
        have hq : qm_X13_cover_0 K (q_X13_cover K k) x1 x2 z = some (r, z1) := hq
        unfold qm_X13_cover_0 at hq
        refine lv_aload_n hx hb dmX13_cover_0 rfl (lv_at hl 0 rfl) ?_
        refine lv_iconst (v := 0) hx hb dmX13_cover_1 (by decide) ?_
        refine mp13_1 hx hb hT hown hK hM hU hq dmX13_cover_2 (fun z1 H locs hM hq => ?_)
        refine lv_aload_n hx hb dmX13_cover_5 rfl (lv_at hl 0 rfl) ?_
        refine lv_iload_n hx hb dmX13_cover_6 rfl (lv_at hl 1 rfl) ?_
        obtain ⟨v3, z2, hcq, hq⟩ := tw_cl1 hq
        refine tw_cali hM (va_runV (As := [.int x1]) (rest := []) ⟨hx, hb, hml, hown, hts⟩ (km_X13_has l D q u hU K x1 z1 z2 v3 hcq) (cwV 1 hts (tw_gV wM_good wq_127 wq_128 wq_129 wq_61 wq_90) rfl rfl rfl cd_X13_has ⟨(Nat.le_of_ble_eq_true rfl), (Nat.le_of_ble_eq_true rfl)⟩) (mw_preV hK hN hM mo_0 rfl) rfl rfl hl.1 rfl (lv_room (Nat.le_of_ble_eq_true rfl)) dmX13_cover_7 ⟨(Nat.le_of_ble_eq_true rfl), (Nat.le_of_ble_eq_true rfl)⟩) (fun H locs hM => ?_)
        refine lv_if_ne (tgt := 19) hx hb dmX13_cover_10 (by decide) (fun hc => ?_) (fun hc => ?_)
        · have hq := tw_if hq hc
          refine lv_aload_n hx hb dmX13_cover_19 rfl (lv_at hl 0 rfl) ?_
          refine lv_iload_n hx hb dmX13_cover_20 rfl (lv_at hl 1 rfl) ?_
          obtain ⟨z4, hcq, hq⟩ := tw_cl0 hq
          refine tw_calv hM (va_runV (As := [.int x1]) (rest := []) ⟨hx, hb, hml, hown, hts⟩ (km_X13_coverOf l D q u hU K x1 z2 z4 hcq) (cwV 1 hts (tw_gV wM_good wq_401 wq_402 wq_403 wq_61 wq_400) rfl rfl rfl cd_X13_coverOf ⟨(Nat.le_of_ble_eq_true rfl), (Nat.le_of_ble_eq_true rfl)⟩) (mw_preV hK hN hM mo_0 rfl) rfl rfl hl.1 rfl (lv_room (Nat.le_of_ble_eq_true rfl)) dmX13_cover_21 ⟨(Nat.le_of_ble_eq_true rfl), (Nat.le_of_ble_eq_true rfl)⟩) (fun H locs hM => ?_)
          refine lv_iload_n hx hb dmX13_cover_24 rfl (lv_at hl 2 rfl) ?_
          refine lv_if_lt (tgt := 36) hx hb dmX13_cover_25 (by decide) (fun hc => ?_) (fun hc => ?_)
          · have hq := tw_it hq hc
            exact ih_1 x1 x2 z4 H locs ls hM (lv_sub hl [0, 1, 2] rfl) hq
          · have hq := tw_if hq hc
            refine lv_iload_n hx hb dmX13_cover_28 rfl (lv_at hl 2 rfl) ?_
            refine lv_aload_n hx hb dmX13_cover_29 rfl (lv_at hl 0 rfl) ?_
            refine mg13_640 hx hb hT hown hK hM hq dmX13_cover_30 (fun v5 hq => ?_)
            refine lv_icmp_lt (tgt := 40) hx hb dmX13_cover_33 (by decide) (fun hc => ?_) (fun hc => ?_)
            · have hq := tw_it hq hc
              refine lv_aload_n hx hb dmX13_cover_40 rfl (lv_at hl 0 rfl) ?_
              refine mg13_253 hx hb hT hown hK hM dmX13_cover_41 ?_
              refine lv_iload_n hx hb dmX13_cover_44 rfl (lv_at hl 2 rfl) ?_
              refine tw_lald mX_ok hx hb hK hM mr_66 hq dmX13_cover_45 (fun v6 hq => ?_)
              refine lv_l2i hx hb dmX13_cover_46 rfl ?_
              exact mw_iret hx hb hr hlocks hM hq hQQ dmX13_cover_47
            · have hq := tw_if hq hc
              exact ih_1 x1 x2 z4 H locs ls hM (lv_sub hl [0, 1, 2] rfl) hq
        · have hq := tw_it hq hc
          refine lv_aload_n hx hb dmX13_cover_13 rfl (lv_at hl 0 rfl) ?_
          refine lv_iconst (v := 1) hx hb dmX13_cover_14 (by decide) ?_
          obtain ⟨v8, z7, hcq, hq⟩ := tw_cl1 hq
          refine tw_cali hM (va_runV (As := [.int 1]) (rest := []) ⟨hx, hb, hml, hown, hts⟩ (km_X13_fails l D q u hU K 1 z2 z7 v8 hcq) (cwV 1 hts (tw_gV wM_good wq_103 wq_104 wq_105 wq_61 wq_50) rfl rfl rfl cd_X13_fails ⟨(Nat.le_of_ble_eq_true rfl), (Nat.le_of_ble_eq_true rfl)⟩) (mw_preV hK hN hM mo_0 rfl) rfl rfl hl.1 rfl (lv_room (Nat.le_of_ble_eq_true rfl)) dmX13_cover_15 ⟨(Nat.le_of_ble_eq_true rfl), (Nat.le_of_ble_eq_true rfl)⟩) (fun H locs hM => ?_)
          exact mw_iret hx hb hr hlocks hM hq hQQ dmX13_cover_18
      · intro x1 x2 z H locs ls  hM hl hq
        have hq : qm_X13_cover_1 K (q_X13_cover K k) x1 x2 z = some (r, z1) := hq
        unfold qm_X13_cover_1 at hq
        refine lv_iconst (v := (-1)) hx hb dmX13_cover_36 (by decide) ?_
        refine lv_goto (tgt := 47) hx hb dmX13_cover_37 (by decide) ?_
        exact mw_iret hx hb hr hlocks hM hq hQQ dmX13_cover_47
  exact (key K).1 x1 x2 z s.heap [] ls  hM (lv_sub hl [0, 1, 2] rfl) hq
theorem dmX13_colours_0 : decode cX13_colours 0 = .ok (.aload_n 0, 1) := dw_at cX13_colours_k0 (p := 0) rfl (by decide +kernel)
theorem dmX13_colours_1 : decode cX13_colours 1 = .ok (.iconst 0, 1) := dw_at cX13_colours_k0 (p := 1) rfl (by decide +kernel)
theorem dmX13_colours_2 : decode cX13_colours 2 = .ok (.putfield 1, 3) := dw_at cX13_colours_k0 (p := 2) rfl (by decide +kernel)
theorem dmX13_colours_5 : decode cX13_colours 5 = .ok (.aload_n 0, 1) := dw_at cX13_colours_k0 (p := 5) rfl (by decide +kernel)
theorem dmX13_colours_6 : decode cX13_colours 6 = .ok (.iload_n 1, 1) := dw_at cX13_colours_k0 (p := 6) rfl (by decide +kernel)
theorem dmX13_colours_7 : decode cX13_colours 7 = .ok (.invokevirtual 423, 3) := dw_at cX13_colours_k0 (p := 7) rfl (by decide +kernel)
theorem dmX13_colours_10 : decode cX13_colours 10 = .ok (.ifCond .ne 10, 3) := dw_at cX13_colours_k0 (p := 10) rfl (by decide +kernel)
theorem dmX13_colours_13 : decode cX13_colours 13 = .ok (.aload_n 0, 1) := dw_at cX13_colours_k0 (p := 13) rfl (by decide +kernel)
theorem dmX13_colours_14 : decode cX13_colours 14 = .ok (.iconst 1, 1) := dw_at cX13_colours_k0 (p := 14) rfl (by decide +kernel)
theorem dmX13_colours_15 : decode cX13_colours 15 = .ok (.invokevirtual 403, 3) := dw_at cX13_colours_k0 (p := 15) rfl (by decide +kernel)
theorem dmX13_colours_18 : decode cX13_colours 18 = .ok (.i2l, 1) := dw_at cX13_colours_k0 (p := 18) rfl (by decide +kernel)
theorem dmX13_colours_19 : decode cX13_colours 19 = .ok (.lreturn, 1) := dw_at cX13_colours_k0 (p := 19) rfl (by decide +kernel)
theorem dmX13_colours_20 : decode cX13_colours 20 = .ok (.iload_n 2, 1) := dw_at cX13_colours_k0 (p := 20) rfl (by decide +kernel)
theorem dmX13_colours_21 : decode cX13_colours 21 = .ok (.iconst 1, 1) := dw_at cX13_colours_k0 (p := 21) rfl (by decide +kernel)
theorem dmX13_colours_22 : decode cX13_colours 22 = .ok (.if_icmp .lt 9, 3) := dw_at cX13_colours_k0 (p := 22) rfl (by decide +kernel)
theorem dmX13_colours_25 : decode cX13_colours 25 = .ok (.iload_n 2, 1) := dw_at cX13_colours_k1 (p := 0) rfl (by decide +kernel)
theorem dmX13_colours_26 : decode cX13_colours 26 = .ok (.bipush 100, 2) := dw_at cX13_colours_k1 (p := 1) rfl (by decide +kernel)
theorem dmX13_colours_28 : decode cX13_colours 28 = .ok (.if_icmp .le 10, 3) := dw_at cX13_colours_k1 (p := 3) rfl (by decide +kernel)
theorem dmX13_colours_31 : decode cX13_colours 31 = .ok (.aload_n 0, 1) := dw_at cX13_colours_k1 (p := 6) rfl (by decide +kernel)
theorem dmX13_colours_32 : decode cX13_colours 32 = .ok (.iconst 2, 1) := dw_at cX13_colours_k1 (p := 7) rfl (by decide +kernel)
theorem dmX13_colours_33 : decode cX13_colours 33 = .ok (.invokevirtual 403, 3) := dw_at cX13_colours_k1 (p := 8) rfl (by decide +kernel)
theorem dmX13_colours_36 : decode cX13_colours 36 = .ok (.i2l, 1) := dw_at cX13_colours_k1 (p := 11) rfl (by decide +kernel)
theorem dmX13_colours_37 : decode cX13_colours 37 = .ok (.lreturn, 1) := dw_at cX13_colours_k1 (p := 12) rfl (by decide +kernel)
theorem dmX13_colours_38 : decode cX13_colours 38 = .ok (.aload_n 0, 1) := dw_at cX13_colours_k1 (p := 13) rfl (by decide +kernel)
theorem dmX13_colours_39 : decode cX13_colours 39 = .ok (.iload_n 1, 1) := dw_at cX13_colours_k1 (p := 14) rfl (by decide +kernel)
theorem dmX13_colours_40 : decode cX13_colours 40 = .ok (.invokevirtual 668, 3) := dw_at cX13_colours_k1 (p := 15) rfl (by decide +kernel)
theorem dmX13_colours_43 : decode cX13_colours 43 = .ok (.iload_n 2, 1) := dw_at cX13_colours_k1 (p := 18) rfl (by decide +kernel)
theorem dmX13_colours_44 : decode cX13_colours 44 = .ok (.i2l, 1) := dw_at cX13_colours_k1 (p := 19) rfl (by decide +kernel)
theorem dmX13_colours_45 : decode cX13_colours 45 = .ok (.lstore_n 3, 1) := dw_at cX13_colours_k1 (p := 20) rfl (by decide +kernel)
theorem dmX13_colours_46 : decode cX13_colours 46 = .ok (.iconst 0, 1) := dw_at cX13_colours_k1 (p := 21) rfl (by decide +kernel)
theorem dmX13_colours_47 : decode cX13_colours 47 = .ok (.istore 5, 2) := dw_at cX13_colours_k1 (p := 22) rfl (by decide +kernel)
theorem dmX13_colours_49 : decode cX13_colours 49 = .ok (.iload 5, 2) := dw_at cX13_colours_k2 (p := 0) rfl (by decide +kernel)
theorem dmX13_colours_51 : decode cX13_colours 51 = .ok (.aload_n 0, 1) := dw_at cX13_colours_k2 (p := 2) rfl (by decide +kernel)
theorem dmX13_colours_52 : decode cX13_colours 52 = .ok (.getfield 640, 3) := dw_at cX13_colours_k2 (p := 3) rfl (by decide +kernel)
theorem dmX13_colours_55 : decode cX13_colours 55 = .ok (.if_icmp .ge 24, 3) := dw_at cX13_colours_k2 (p := 6) rfl (by decide +kernel)
theorem dmX13_colours_58 : decode cX13_colours 58 = .ok (.lload_n 3, 1) := dw_at cX13_colours_k2 (p := 9) rfl (by decide +kernel)
theorem dmX13_colours_59 : decode cX13_colours 59 = .ok (.iload_n 2, 1) := dw_at cX13_colours_k2 (p := 10) rfl (by decide +kernel)
theorem dmX13_colours_60 : decode cX13_colours 60 = .ok (.i2l, 1) := dw_at cX13_colours_k2 (p := 11) rfl (by decide +kernel)
theorem dmX13_colours_61 : decode cX13_colours 61 = .ok (.aload_n 0, 1) := dw_at cX13_colours_k2 (p := 12) rfl (by decide +kernel)
theorem dmX13_colours_62 : decode cX13_colours 62 = .ok (.getfield 253, 3) := dw_at cX13_colours_k2 (p := 13) rfl (by decide +kernel)
theorem dmX13_colours_65 : decode cX13_colours 65 = .ok (.iload 5, 2) := dw_at cX13_colours_k2 (p := 16) rfl (by decide +kernel)
theorem dmX13_colours_67 : decode cX13_colours 67 = .ok (.laload, 1) := dw_at cX13_colours_k2 (p := 18) rfl (by decide +kernel)
theorem dmX13_colours_68 : decode cX13_colours 68 = .ok (.invokestatic 661, 3) := dw_at cX13_colours_k2 (p := 19) rfl (by decide +kernel)
theorem dmX13_colours_71 : decode cX13_colours 71 = .ok (.lmul, 1) := dw_at cX13_colours_k2 (p := 22) rfl (by decide +kernel)
theorem dmX13_colours_72 : decode cX13_colours 72 = .ok (.lstore_n 3, 1) := dw_at cX13_colours_k2 (p := 23) rfl (by decide +kernel)
theorem dmX13_colours_73 : decode cX13_colours 73 = .ok (.iinc 5 1, 3) := dw_at cX13_colours_k3 (p := 0) rfl (by decide +kernel)
theorem dmX13_colours_76 : decode cX13_colours 76 = .ok (.goto (-27), 3) := dw_at cX13_colours_k3 (p := 3) rfl (by decide +kernel)
theorem dmX13_colours_79 : decode cX13_colours 79 = .ok (.lload_n 3, 1) := dw_at cX13_colours_k3 (p := 6) rfl (by decide +kernel)
theorem dmX13_colours_80 : decode cX13_colours 80 = .ok (.lreturn, 1) := dw_at cX13_colours_k3 (p := 7) rfl (by decide +kernel)
def qm_X13_colours_0 (K : Nat) (go : Nat → Int32 → Int32 → Int32 → Int64 → ow_MS → Option (Int64 × ow_MS)) (x1 : Int32) (x2 : Int32) (x5 : Int32) (w3 : Int64) (z : ow_MS) : Option (Int64 × ow_MS) :=
 wrF z 1 0 fun z1 => cs1 (qe_X13_has K x1 z1) fun v3 z2 => (if v3 = 0 then cs1 (qe_X13_fails K 1 z2) fun v6 z5 => some (v6.toInt64, z5)
 else (if x2 < 1 then go 1 x1 x2 0 0 z2
 else (if x2 ≤ 100 then cs0 (qe_X13_coverOf K x1 z2) fun z4 => go 2 x1 x2 0 x2.toInt64 z4
 else go 1 x1 x2 0 0 z2)))
def qm_X13_colours_1 (K : Nat) (go : Nat → Int32 → Int32 → Int32 → Int64 → ow_MS → Option (Int64 × ow_MS)) (x1 : Int32) (x2 : Int32) (x5 : Int32) (w3 : Int64) (z : ow_MS) : Option (Int64 × ow_MS) :=
 cs1 (qe_X13_fails K 2 z) fun v8 z7 => some (v8.toInt64, z7)
def qm_X13_colours_2 (K : Nat) (go : Nat → Int32 → Int32 → Int32 → Int64 → ow_MS → Option (Int64 × ow_MS)) (x1 : Int32) (x2 : Int32) (x5 : Int32) (w3 : Int64) (z : ow_MS) : Option (Int64 × ow_MS) :=
 rdF z 67 fun v9 => (if v9 ≤ x5 then some (w3, z)
 else rdJ mX z 66 x5 fun v10 => cs1 (qe_X13_gcd K x2.toInt64 v10 z) fun v12 z11 => go 2 x1 x2 (x5 + 1) (w3 * v12) z11)
def qb_X13_colours (K : Nat) (go : Nat → Int32 → Int32 → Int32 → Int64 → ow_MS → Option (Int64 × ow_MS)) (L : Nat) (x1 : Int32) (x2 : Int32) (x5 : Int32) (w3 : Int64) (z : ow_MS) : Option (Int64 × ow_MS) := match L with
  | 0 => qm_X13_colours_0 K go x1 x2 x5 w3 z
  | 1 => qm_X13_colours_1 K go x1 x2 x5 w3 z
  | 2 => qm_X13_colours_2 K go x1 x2 x5 w3 z
  | _ => none
def q_X13_colours (K : Nat) : Nat → Nat → Int32 → Int32 → Int32 → Int64 → ow_MS → Option (Int64 × ow_MS)
  | 0 => fun _ _ _ _ _ _ => none
  | k + 1 => qb_X13_colours K (q_X13_colours K k)
def qe_X13_colours (K : Nat) (x1 : Int32) (x2 : Int32) (z : ow_MS) : Option (Int64 × ow_MS) := q_X13_colours K K 0 x1 x2 0 0 z
abbrev wm_X13_colours : List Cond := .code yX13_colours cX13_colours 6 (some .long) :: wM
theorem cd_X13_colours : yX13_colours.cls = RX13 ∧ yX13_colours.cls ≠ "java/lang/invoke/MethodHandle" ∧ yX13_colours.cls ≠ "java/lang/invoke/VarHandle" ∧ (parseMethodDescriptor yX13_colours.desc).map (fun d => d.parameters.length) = some 2 := by decide +kernel
set_option maxHeartbeats 4000000 in
set_option maxRecDepth 100000 in
theorem km_X13_colours (l : Launch) (D : va_G) (q : ow_Q5) (u : Nat → Nat) (hU : tw_inj mX u) (K : Nat) (x1 : Int32) (x2 : Int32)  (z z1 : ow_MS) (r : Int64) (hq : qe_X13_colours K x1 x2 z = some (r, z1)) : Met l yX13_colours wm_X13_colours ({ frames := 4, cells := 0, slots := 0, locals := 109 } : Room) (va_Pc [.ref (u 0), .int x1, .int x2] (mw_pre D q u z)) (va_Ql (fun x (_ : Unit) => x = r) (fun _ t => va_P D vwCl (tw mX q u z1) t.heap) (tw_A mX u)) 0 0 (tw_A mX u) := by
  refine Met.ofW (cc := cX13_colours) (maxL := 6) (ret := (some .long)) (by decide) rfl ?_
  intro p e s m args below meth c s₁ B hml hv
  obtain ⟨rfl, hP, hK, hN⟩ := hv
  have hx := B.exec
  have hb := B.bytes
  have hr := B.returns
  have hts := atoms_spec (ws := wm_X13_colours) B.pre
  have hT : ∀ w ∈ wM, w.before ([.ref (u 0), .int x1, .int x2] : List Value).toArray s = true := fun w h => hts w (List.mem_cons_of_mem _ h)
  have hown : s.vm.findClass RX13 = some m.cls := findClass_of_methodNamed B.named
  have hlocks := B.notSynchronized
  have hM : tw_M D vwCl mX q s.heap u z s.heap [] := ⟨hP, va_S.rf⟩
  have hl := lv_entry ([.ref (u 0), .int x1, .int x2]) (n := 6) (Nat.le_of_ble_eq_true rfl)
  rw [lg_entry_eq]
  generalize (lg_sl ([.ref (u 0), .int x1, .int x2]) ++ List.replicate (6 - (lg_sl ([.ref (u 0), .int x1, .int x2])).length) Slot.unset).toArray = ls at hl ⊢
  have hl : lv_has ls 6 [(0, .ref (u 0)), (1, .int x1), (2, .int x2)] := hl
  refine ow_named (fun QQ hQQ => ?_)
  generalize ([.ref (u 0), .int x1, .int x2] : List Value).toArray = args at hts hT hQQ ⊢
  have key : ∀ k : Nat, (∀ (x1 : Int32) (x2 : Int32) (x5 : Int32) (w3 : Int64) (z : ow_MS) (H : Heap) (locs : List Loc) (ls : Array Slot), tw_M D vwCl mX q s.heap u z H locs → lv_has ls 6 [(0, .ref (u 0)), (1, .int x1), (2, .int x2)] → q_X13_colours K k 0 x1 x2 x5 w3 z = some (r, z1) → W p l e ({ frames := 4, cells := 0, slots := 0, locals := 109 } : Room) s m args below meth c H locs 0 0 QQ (F0 m 0 ls [])) ∧ (∀ (x1 : Int32) (x2 : Int32) (x5 : Int32) (w3 : Int64) (z : ow_MS) (H : Heap) (locs : List Loc) (ls : Array Slot), tw_M D vwCl mX q s.heap u z H locs → lv_has ls 6 [(0, .ref (u 0)), (1, .int x1), (2, .int x2)] → q_X13_colours K k 1 x1 x2 x5 w3 z = some (r, z1) → W p l e ({ frames := 4, cells := 0, slots := 0, locals := 109 } : Room) s m args below meth c H locs 0 0 QQ (F0 m 31 ls [])) ∧ (∀ (x1 : Int32) (x2 : Int32) (x5 : Int32) (w3 : Int64) (z : ow_MS) (H : Heap) (locs : List Loc) (ls : Array Slot), tw_M D vwCl mX q s.heap u z H locs → lv_has ls 6 [(0, .ref (u 0)), (1, .int x1), (2, .int x2), (3, .long w3), (5, .int x5)] → q_X13_colours K k 2 x1 x2 x5 w3 z = some (r, z1) → W p l e ({ frames := 4, cells := 0, slots := 0, locals := 109 } : Room) s m args below meth c H locs 0 0 QQ (F0 m 49 ls [])) := by
    intro k
    induction k with
    | zero => exact ⟨fun _ _ _ _ _ _ _ _  _ _ hq => tw_no hq, fun _ _ _ _ _ _ _ _  _ _ hq => tw_no hq, fun _ _ _ _ _ _ _ _  _ _ hq => tw_no hq⟩
    | succ k ih =>
      obtain ⟨ih_0, ih_1, ih_2⟩ := ih
      refine ⟨?_, ?_, ?_⟩
      · intro x1 x2 x5 w3 z H locs ls  hM hl hq
        have hq : qm_X13_colours_0 K (q_X13_colours K k) x1 x2 x5 w3 z = some (r, z1) := hq
        unfold qm_X13_colours_0 at hq
        refine lv_aload_n hx hb dmX13_colours_0 rfl (lv_at hl 0 rfl) ?_
        refine lv_iconst (v := 0) hx hb dmX13_colours_1 (by decide) ?_
        refine mp13_1 hx hb hT hown hK hM hU hq dmX13_colours_2 (fun z1 H locs hM hq => ?_)
        refine lv_aload_n hx hb dmX13_colours_5 rfl (lv_at hl 0 rfl) ?_
        refine lv_iload_n hx hb dmX13_colours_6 rfl (lv_at hl 1 rfl) ?_
        obtain ⟨v3, z2, hcq, hq⟩ := tw_cl1 hq
        refine tw_cali hM (va_runV (As := [.int x1]) (rest := []) ⟨hx, hb, hml, hown, hts⟩ (km_X13_has l D q u hU K x1 z1 z2 v3 hcq) (cwV 1 hts (tw_gV wM_good wq_127 wq_128 wq_129 wq_61 wq_90) rfl rfl rfl cd_X13_has ⟨(Nat.le_of_ble_eq_true rfl), (Nat.le_of_ble_eq_true rfl)⟩) (mw_preV hK hN hM mo_0 rfl) rfl rfl hl.1 rfl (lv_room (Nat.le_of_ble_eq_true rfl)) dmX13_colours_7 ⟨(Nat.le_of_ble_eq_true rfl), (Nat.le_of_ble_eq_true rfl)⟩) (fun H locs hM => ?_)
        refine lv_if_ne (tgt := 20) hx hb dmX13_colours_10 (by decide) (fun hc => ?_) (fun hc => ?_)
        · have hq := tw_if hq hc
          refine lv_iload_n hx hb dmX13_colours_20 rfl (lv_at hl 2 rfl) ?_
          refine lv_iconst (v := 1) hx hb dmX13_colours_21 (by decide) ?_
          refine lv_icmp_lt (tgt := 31) hx hb dmX13_colours_22 (by decide) (fun hc => ?_) (fun hc => ?_)
          · have hq := tw_it hq hc
            exact ih_1 x1 x2 0 0 z2 H locs ls hM (lv_sub hl [0, 1, 2] rfl) hq
          · have hq := tw_if hq hc
            refine lv_iload_n hx hb dmX13_colours_25 rfl (lv_at hl 2 rfl) ?_
            refine lv_bipush (v := 100) hx hb dmX13_colours_26 (by decide) ?_
            refine lv_icmp_le (tgt := 38) hx hb dmX13_colours_28 (by decide) (fun hc => ?_) (fun hc => ?_)
            · have hq := tw_it hq hc
              refine lv_aload_n hx hb dmX13_colours_38 rfl (lv_at hl 0 rfl) ?_
              refine lv_iload_n hx hb dmX13_colours_39 rfl (lv_at hl 1 rfl) ?_
              obtain ⟨z4, hcq, hq⟩ := tw_cl0 hq
              refine tw_calv hM (va_runV (As := [.int x1]) (rest := []) ⟨hx, hb, hml, hown, hts⟩ (km_X13_coverOf l D q u hU K x1 z2 z4 hcq) (cwV 1 hts (tw_gV wM_good wq_401 wq_402 wq_403 wq_61 wq_400) rfl rfl rfl cd_X13_coverOf ⟨(Nat.le_of_ble_eq_true rfl), (Nat.le_of_ble_eq_true rfl)⟩) (mw_preV hK hN hM mo_0 rfl) rfl rfl hl.1 rfl (lv_room (Nat.le_of_ble_eq_true rfl)) dmX13_colours_40 ⟨(Nat.le_of_ble_eq_true rfl), (Nat.le_of_ble_eq_true rfl)⟩) (fun H locs hM => ?_)
              refine lv_iload_n hx hb dmX13_colours_43 rfl (lv_at hl 2 rfl) ?_
              refine lv_i2l hx hb dmX13_colours_44 rfl ?_
              refine lv_lstore_n (lv' := [(3, .long x2.toInt64), (0, .ref (u 0)), (1, .int x1), (2, .int x2)]) hx hb dmX13_colours_45 rfl hl (by decide) rfl (fun ls hl => ?_)
              refine lv_iconst (v := 0) hx hb dmX13_colours_46 (by decide) ?_
              refine lv_istore (lv' := [(5, .int 0), (3, .long x2.toInt64), (0, .ref (u 0)), (1, .int x1), (2, .int x2)]) hx hb dmX13_colours_47 hl (by decide) rfl (fun ls hl => ?_)
              exact ih_2 x1 x2 0 x2.toInt64 z4 H locs ls hM (lv_sub hl [2, 3, 4, 1, 0] rfl) hq
            · have hq := tw_if hq hc
              exact ih_1 x1 x2 0 0 z2 H locs ls hM (lv_sub hl [0, 1, 2] rfl) hq
        · have hq := tw_it hq hc
          refine lv_aload_n hx hb dmX13_colours_13 rfl (lv_at hl 0 rfl) ?_
          refine lv_iconst (v := 1) hx hb dmX13_colours_14 (by decide) ?_
          obtain ⟨v6, z5, hcq, hq⟩ := tw_cl1 hq
          refine tw_cali hM (va_runV (As := [.int 1]) (rest := []) ⟨hx, hb, hml, hown, hts⟩ (km_X13_fails l D q u hU K 1 z2 z5 v6 hcq) (cwV 1 hts (tw_gV wM_good wq_103 wq_104 wq_105 wq_61 wq_50) rfl rfl rfl cd_X13_fails ⟨(Nat.le_of_ble_eq_true rfl), (Nat.le_of_ble_eq_true rfl)⟩) (mw_preV hK hN hM mo_0 rfl) rfl rfl hl.1 rfl (lv_room (Nat.le_of_ble_eq_true rfl)) dmX13_colours_15 ⟨(Nat.le_of_ble_eq_true rfl), (Nat.le_of_ble_eq_true rfl)⟩) (fun H locs hM => ?_)
          refine lv_i2l hx hb dmX13_colours_18 rfl ?_
          exact mw_lret hx hb hr hlocks hM hq hQQ dmX13_colours_19
      · intro x1 x2 x5 w3 z H locs ls  hM hl hq
        have hq : qm_X13_colours_1 K (q_X13_colours K k) x1 x2 x5 w3 z = some (r, z1) := hq
        unfold qm_X13_colours_1 at hq
        refine lv_aload_n hx hb dmX13_colours_31 rfl (lv_at hl 0 rfl) ?_
        refine lv_iconst (v := 2) hx hb dmX13_colours_32 (by decide) ?_
        obtain ⟨v8, z7, hcq, hq⟩ := tw_cl1 hq
        refine tw_cali hM (va_runV (As := [.int 2]) (rest := []) ⟨hx, hb, hml, hown, hts⟩ (km_X13_fails l D q u hU K 2 z z7 v8 hcq) (cwV 1 hts (tw_gV wM_good wq_103 wq_104 wq_105 wq_61 wq_50) rfl rfl rfl cd_X13_fails ⟨(Nat.le_of_ble_eq_true rfl), (Nat.le_of_ble_eq_true rfl)⟩) (mw_preV hK hN hM mo_0 rfl) rfl rfl hl.1 rfl (lv_room (Nat.le_of_ble_eq_true rfl)) dmX13_colours_33 ⟨(Nat.le_of_ble_eq_true rfl), (Nat.le_of_ble_eq_true rfl)⟩) (fun H locs hM => ?_)
        refine lv_i2l hx hb dmX13_colours_36 rfl ?_
        exact mw_lret hx hb hr hlocks hM hq hQQ dmX13_colours_37
      · intro x1 x2 x5 w3 z H locs ls  hM hl hq
        have hq : qm_X13_colours_2 K (q_X13_colours K k) x1 x2 x5 w3 z = some (r, z1) := hq
        unfold qm_X13_colours_2 at hq
        refine lv_iload hx hb dmX13_colours_49 (lv_at hl 4 rfl) ?_
        refine lv_aload_n hx hb dmX13_colours_51 rfl (lv_at hl 0 rfl) ?_
        refine mg13_640 hx hb hT hown hK hM hq dmX13_colours_52 (fun v9 hq => ?_)
        refine lv_icmp_ge (tgt := 79) hx hb dmX13_colours_55 (by decide) (fun hc => ?_) (fun hc => ?_)
        · have hq := tw_it hq hc
          refine lv_lload_n hx hb dmX13_colours_79 rfl (lv_at hl 3 rfl) ?_
          exact mw_lret hx hb hr hlocks hM hq hQQ dmX13_colours_80
        · have hq := tw_if hq hc
          refine lv_lload_n hx hb dmX13_colours_58 rfl (lv_at hl 3 rfl) ?_
          refine lv_iload_n hx hb dmX13_colours_59 rfl (lv_at hl 2 rfl) ?_
          refine lv_i2l hx hb dmX13_colours_60 rfl ?_
          refine lv_aload_n hx hb dmX13_colours_61 rfl (lv_at hl 0 rfl) ?_
          refine mg13_253 hx hb hT hown hK hM dmX13_colours_62 ?_
          refine lv_iload hx hb dmX13_colours_65 (lv_at hl 4 rfl) ?_
          refine tw_lald mX_ok hx hb hK hM mr_66 hq dmX13_colours_67 (fun v10 hq => ?_)
          obtain ⟨v12, z11, hcq, hq⟩ := tw_cl1 hq
          refine tw_call hM (va_runS (As := [.long x2.toInt64, .long v10]) (rest := [.long w3]) ⟨hx, hb, hml, hown, hts⟩ (km_X13_gcd l D q u hU K x2.toInt64 v10 z z11 v12 hcq) (va_cwS 2 hts (tw_gS wM_good wq_392 wq_393 wq_61 wq_394) rfl rfl rfl cd_X13_gcd ⟨(Nat.le_of_ble_eq_true rfl), (Nat.le_of_ble_eq_true rfl)⟩) (mw_preS hK hN hM) rfl rfl hl.1 rfl (lv_room (Nat.le_of_ble_eq_true rfl)) dmX13_colours_68 ⟨(Nat.le_of_ble_eq_true rfl), (Nat.le_of_ble_eq_true rfl)⟩) (fun H locs hM => ?_)
          refine lv_lmul hx hb dmX13_colours_71 ?_
          refine lv_lstore_n (lv' := [(3, .long (w3 * v12)), (0, .ref (u 0)), (1, .int x1), (2, .int x2), (5, .int x5)]) hx hb dmX13_colours_72 rfl hl (by decide) rfl (fun ls hl => ?_)
          refine lv_iinc (v := (x5 + 1)) (lv' := [(5, .int (x5 + 1)), (3, .long (w3 * v12)), (0, .ref (u 0)), (1, .int x1), (2, .int x2)]) hx hb dmX13_colours_73 hl (k := 4) rfl rfl (by decide) rfl (fun ls hl => ?_)
          refine lv_goto (tgt := 49) hx hb dmX13_colours_76 (by decide) ?_
          exact ih_2 x1 x2 (x5 + 1) (w3 * v12) z11 H locs ls hM (lv_sub hl [2, 3, 4, 1, 0] rfl) hq
  exact (key K).1 x1 x2 0 0 z s.heap [] ls  hM (lv_sub hl [0, 1, 2] rfl) hq
theorem dmX13_give_0 : decode cX13_give 0 = .ok (.aload_n 0, 1) := by decide +kernel
theorem dmX13_give_1 : decode cX13_give 1 = .ok (.getfield 277, 3) := by decide +kernel
theorem dmX13_give_4 : decode cX13_give 4 = .ok (.iload_n 1, 1) := by decide +kernel
theorem dmX13_give_5 : decode cX13_give 5 = .ok (.iload_n 2, 1) := by decide +kernel
theorem dmX13_give_6 : decode cX13_give 6 = .ok (.iastore, 1) := by decide +kernel
theorem dmX13_give_7 : decode cX13_give 7 = .ok (.aload_n 0, 1) := by decide +kernel
theorem dmX13_give_8 : decode cX13_give 8 = .ok (.getfield 280, 3) := by decide +kernel
theorem dmX13_give_11 : decode cX13_give 11 = .ok (.aload_n 0, 1) := by decide +kernel
theorem dmX13_give_12 : decode cX13_give 12 = .ok (.getfield 675, 3) := by decide +kernel
theorem dmX13_give_15 : decode cX13_give 15 = .ok (.iload_n 1, 1) := by decide +kernel
theorem dmX13_give_16 : decode cX13_give 16 = .ok (.iastore, 1) := by decide +kernel
theorem dmX13_give_17 : decode cX13_give 17 = .ok (.aload_n 0, 1) := by decide +kernel
theorem dmX13_give_18 : decode cX13_give 18 = .ok (.dup, 1) := by decide +kernel
theorem dmX13_give_19 : decode cX13_give 19 = .ok (.getfield 675, 3) := by decide +kernel
theorem dmX13_give_22 : decode cX13_give 22 = .ok (.iconst 1, 1) := by decide +kernel
theorem dmX13_give_23 : decode cX13_give 23 = .ok (.iadd, 1) := by decide +kernel
theorem dmX13_give_24 : decode cX13_give 24 = .ok (.putfield 675, 3) := by decide +kernel
theorem dmX13_give_27 : decode cX13_give 27 = .ok (.return_, 1) := by decide +kernel
def qm_X13_give_0 (K : Nat) (x1 : Int32) (x2 : Int32) (z : ow_MS) : Option ow_MS :=
 wrI mX z 77 x1 x2 fun z1 => rdF z1 79 fun v2 => wrI mX z1 78 v2 x1 fun z3 => rdF z3 79 fun v4 => wrF z3 79 (v4 + 1) fun z5 => some z5
def qe_X13_give (K : Nat) (x1 : Int32) (x2 : Int32) (z : ow_MS) : Option ow_MS := qm_X13_give_0 K x1 x2 z
abbrev wm_X13_give : List Cond := .code yX13_give cX13_give 3 none :: wM
theorem cd_X13_give : yX13_give.cls = RX13 ∧ yX13_give.cls ≠ "java/lang/invoke/MethodHandle" ∧ yX13_give.cls ≠ "java/lang/invoke/VarHandle" ∧ (parseMethodDescriptor yX13_give.desc).map (fun d => d.parameters.length) = some 2 := by decide +kernel
set_option maxHeartbeats 4000000 in
set_option maxRecDepth 100000 in
theorem km_X13_give (l : Launch) (D : va_G) (q : ow_Q5) (u : Nat → Nat) (hU : tw_inj mX u) (K : Nat) (x1 : Int32) (x2 : Int32)  (z z1 : ow_MS) (hq : qe_X13_give K x1 x2 z = some z1) : Met l yX13_give wm_X13_give ({ frames := 0, cells := 0, slots := 0, locals := 0 } : Room) (va_Pc [.ref (u 0), .int x1, .int x2] (mw_pre D q u z)) (va_Qv (fun (_ : Unit) => True) (fun _ t => va_P D vwCl (tw mX q u z1) t.heap) (tw_A mX u)) 0 0 (tw_A mX u) := by
  refine Met.ofW (cc := cX13_give) (maxL := 3) (ret := none) (by decide) rfl ?_
  intro p e s m args below meth c s₁ B hml hv
  obtain ⟨rfl, hP, hK, hN⟩ := hv
  have hx := B.exec
  have hb := B.bytes
  have hr := B.returns
  have hts := atoms_spec (ws := wm_X13_give) B.pre
  have hT : ∀ w ∈ wM, w.before ([.ref (u 0), .int x1, .int x2] : List Value).toArray s = true := fun w h => hts w (List.mem_cons_of_mem _ h)
  have hown : s.vm.findClass RX13 = some m.cls := findClass_of_methodNamed B.named
  have hlocks := B.notSynchronized
  have hM : tw_M D vwCl mX q s.heap u z s.heap [] := ⟨hP, va_S.rf⟩
  have hl := lv_entry ([.ref (u 0), .int x1, .int x2]) (n := 3) (Nat.le_of_ble_eq_true rfl)
  rw [lg_entry_eq]
  generalize (lg_sl ([.ref (u 0), .int x1, .int x2]) ++ List.replicate (3 - (lg_sl ([.ref (u 0), .int x1, .int x2])).length) Slot.unset).toArray = ls at hl ⊢
  have hl : lv_has ls 3 [(0, .ref (u 0)), (1, .int x1), (2, .int x2)] := hl
  refine ow_named (fun QQ hQQ => ?_)
  generalize ([.ref (u 0), .int x1, .int x2] : List Value).toArray = args at hts hT hQQ ⊢
  have hq : qm_X13_give_0 K x1 x2 z = some z1 := hq
  unfold qm_X13_give_0 at hq
  suffices key : ∀ (H : Heap) (locs : List Loc), tw_M D vwCl mX q s.heap u z H locs → W p l e ({ frames := 0, cells := 0, slots := 0, locals := 0 } : Room) s m args below meth c H locs 0 0 QQ (F0 m 0 ls []) from key s.heap [] hM
  intro H locs hM
  refine lv_aload_n hx hb dmX13_give_0 rfl (lv_at hl 0 rfl) ?_
  refine mg13_277 hx hb hT hown hK hM dmX13_give_1 ?_
  refine lv_iload_n hx hb dmX13_give_4 rfl (lv_at hl 1 rfl) ?_
  refine lv_iload_n hx hb dmX13_give_5 rfl (lv_at hl 2 rfl) ?_
  refine tw_iast mX_ok hU hx hb hK hM mr_77 hq dmX13_give_6 (fun z1 H locs hM hq => ?_)
  refine lv_aload_n hx hb dmX13_give_7 rfl (lv_at hl 0 rfl) ?_
  refine mg13_280 hx hb hT hown hK hM dmX13_give_8 ?_
  refine lv_aload_n hx hb dmX13_give_11 rfl (lv_at hl 0 rfl) ?_
  refine mg13_675 hx hb hT hown hK hM hq dmX13_give_12 (fun v2 hq => ?_)
  refine lv_iload_n hx hb dmX13_give_15 rfl (lv_at hl 1 rfl) ?_
  refine tw_iast mX_ok hU hx hb hK hM mr_78 hq dmX13_give_16 (fun z3 H locs hM hq => ?_)
  refine lv_aload_n hx hb dmX13_give_17 rfl (lv_at hl 0 rfl) ?_
  refine lv_dup hx hb dmX13_give_18 rfl ?_
  refine mg13_675 hx hb hT hown hK hM hq dmX13_give_19 (fun v4 hq => ?_)
  refine lv_iconst (v := 1) hx hb dmX13_give_22 (by decide) ?_
  refine lv_iadd hx hb dmX13_give_23 ?_
  refine mp13_675 hx hb hT hown hK hM hU hq dmX13_give_24 (fun z5 H locs hM hq => ?_)
  exact mw_vret hx hb hr hlocks hM hq hQQ dmX13_give_27
theorem dmX13_follows_0 : decode cX13_follows 0 = .ok (.iconst 1, 1) := dw_at cX13_follows_k0 (p := 0) rfl (by decide +kernel)
theorem dmX13_follows_1 : decode cX13_follows 1 = .ok (.istore_n 3, 1) := dw_at cX13_follows_k0 (p := 1) rfl (by decide +kernel)
theorem dmX13_follows_2 : decode cX13_follows 2 = .ok (.iload_n 3, 1) := dw_at cX13_follows_k0 (p := 2) rfl (by decide +kernel)
theorem dmX13_follows_3 : decode cX13_follows 3 = .ok (.ifCond .eq 255, 3) := dw_at cX13_follows_k0 (p := 3) rfl (by decide +kernel)
theorem dmX13_follows_6 : decode cX13_follows 6 = .ok (.iconst 0, 1) := dw_at cX13_follows_k0 (p := 6) rfl (by decide +kernel)
theorem dmX13_follows_7 : decode cX13_follows 7 = .ok (.istore_n 3, 1) := dw_at cX13_follows_k0 (p := 7) rfl (by decide +kernel)
theorem dmX13_follows_8 : decode cX13_follows 8 = .ok (.iconst 0, 1) := dw_at cX13_follows_k0 (p := 8) rfl (by decide +kernel)
theorem dmX13_follows_9 : decode cX13_follows 9 = .ok (.istore 4, 2) := dw_at cX13_follows_k0 (p := 9) rfl (by decide +kernel)
theorem dmX13_follows_11 : decode cX13_follows 11 = .ok (.iload 4, 2) := dw_at cX13_follows_k0 (p := 11) rfl (by decide +kernel)
theorem dmX13_follows_13 : decode cX13_follows 13 = .ok (.aload_n 1, 1) := dw_at cX13_follows_k0 (p := 13) rfl (by decide +kernel)
theorem dmX13_follows_14 : decode cX13_follows 14 = .ok (.getfield 44, 3) := dw_at cX13_follows_k0 (p := 14) rfl (by decide +kernel)
theorem dmX13_follows_17 : decode cX13_follows 17 = .ok (.iconst 2, 1) := dw_at cX13_follows_k0 (p := 17) rfl (by decide +kernel)
theorem dmX13_follows_18 : decode cX13_follows 18 = .ok (.idiv, 1) := dw_at cX13_follows_k0 (p := 18) rfl (by decide +kernel)
theorem dmX13_follows_19 : decode cX13_follows 19 = .ok (.if_icmp .ge 236, 3) := dw_at cX13_follows_k0 (p := 19) rfl (by decide +kernel)
theorem dmX13_follows_22 : decode cX13_follows 22 = .ok (.aload_n 0, 1) := dw_at cX13_follows_k0 (p := 22) rfl (by decide +kernel)
theorem dmX13_follows_23 : decode cX13_follows 23 = .ok (.getfield 277, 3) := dw_at cX13_follows_k0 (p := 23) rfl (by decide +kernel)
theorem dmX13_follows_26 : decode cX13_follows 26 = .ok (.aload_n 0, 1) := dw_at cX13_follows_k1 (p := 0) rfl (by decide +kernel)
theorem dmX13_follows_27 : decode cX13_follows 27 = .ok (.getfield 238, 3) := dw_at cX13_follows_k1 (p := 1) rfl (by decide +kernel)
theorem dmX13_follows_30 : decode cX13_follows 30 = .ok (.iload 4, 2) := dw_at cX13_follows_k1 (p := 4) rfl (by decide +kernel)
theorem dmX13_follows_32 : decode cX13_follows 32 = .ok (.iaload, 1) := dw_at cX13_follows_k1 (p := 6) rfl (by decide +kernel)
theorem dmX13_follows_33 : decode cX13_follows 33 = .ok (.iaload, 1) := dw_at cX13_follows_k1 (p := 7) rfl (by decide +kernel)
theorem dmX13_follows_34 : decode cX13_follows 34 = .ok (.istore 5, 2) := dw_at cX13_follows_k1 (p := 8) rfl (by decide +kernel)
theorem dmX13_follows_36 : decode cX13_follows 36 = .ok (.aload_n 0, 1) := dw_at cX13_follows_k1 (p := 10) rfl (by decide +kernel)
theorem dmX13_follows_37 : decode cX13_follows 37 = .ok (.getfield 283, 3) := dw_at cX13_follows_k1 (p := 11) rfl (by decide +kernel)
theorem dmX13_follows_40 : decode cX13_follows 40 = .ok (.iload 4, 2) := dw_at cX13_follows_k1 (p := 14) rfl (by decide +kernel)
theorem dmX13_follows_42 : decode cX13_follows 42 = .ok (.baload, 1) := dw_at cX13_follows_k1 (p := 16) rfl (by decide +kernel)
theorem dmX13_follows_43 : decode cX13_follows 43 = .ok (.ifCond .eq 206, 3) := dw_at cX13_follows_k1 (p := 17) rfl (by decide +kernel)
theorem dmX13_follows_46 : decode cX13_follows 46 = .ok (.iload 5, 2) := dw_at cX13_follows_k1 (p := 20) rfl (by decide +kernel)
theorem dmX13_follows_48 : decode cX13_follows 48 = .ok (.iconst (-1), 1) := dw_at cX13_follows_k1 (p := 22) rfl (by decide +kernel)
theorem dmX13_follows_49 : decode cX13_follows 49 = .ok (.if_icmp .eq 200, 3) := dw_at cX13_follows_k1 (p := 23) rfl (by decide +kernel)
theorem dmX13_follows_52 : decode cX13_follows 52 = .ok (.aload_n 1, 1) := dw_at cX13_follows_k2 (p := 0) rfl (by decide +kernel)
theorem dmX13_follows_53 : decode cX13_follows 53 = .ok (.getfield 35, 3) := dw_at cX13_follows_k2 (p := 1) rfl (by decide +kernel)
theorem dmX13_follows_56 : decode cX13_follows 56 = .ok (.iload 4, 2) := dw_at cX13_follows_k2 (p := 4) rfl (by decide +kernel)
theorem dmX13_follows_58 : decode cX13_follows 58 = .ok (.iaload, 1) := dw_at cX13_follows_k2 (p := 6) rfl (by decide +kernel)
theorem dmX13_follows_59 : decode cX13_follows 59 = .ok (.ifCond .le 10, 3) := dw_at cX13_follows_k2 (p := 7) rfl (by decide +kernel)
theorem dmX13_follows_62 : decode cX13_follows 62 = .ok (.aload_n 0, 1) := dw_at cX13_follows_k2 (p := 10) rfl (by decide +kernel)
theorem dmX13_follows_63 : decode cX13_follows 63 = .ok (.getfield 271, 3) := dw_at cX13_follows_k2 (p := 11) rfl (by decide +kernel)
theorem dmX13_follows_66 : decode cX13_follows 66 = .ok (.goto 7, 3) := dw_at cX13_follows_k2 (p := 14) rfl (by decide +kernel)
theorem dmX13_follows_69 : decode cX13_follows 69 = .ok (.aload_n 0, 1) := dw_at cX13_follows_k2 (p := 17) rfl (by decide +kernel)
theorem dmX13_follows_70 : decode cX13_follows 70 = .ok (.getfield 274, 3) := dw_at cX13_follows_k2 (p := 18) rfl (by decide +kernel)
theorem dmX13_follows_73 : decode cX13_follows 73 = .ok (.astore 6, 2) := dw_at cX13_follows_k2 (p := 21) rfl (by decide +kernel)
theorem dmX13_follows_75 : decode cX13_follows 75 = .ok (.aload_n 1, 1) := dw_at cX13_follows_k2 (p := 23) rfl (by decide +kernel)
theorem dmX13_follows_76 : decode cX13_follows 76 = .ok (.getfield 35, 3) := dw_at cX13_follows_k3 (p := 0) rfl (by decide +kernel)
theorem dmX13_follows_79 : decode cX13_follows 79 = .ok (.iload 4, 2) := dw_at cX13_follows_k3 (p := 3) rfl (by decide +kernel)
theorem dmX13_follows_81 : decode cX13_follows 81 = .ok (.iaload, 1) := dw_at cX13_follows_k3 (p := 5) rfl (by decide +kernel)
theorem dmX13_follows_82 : decode cX13_follows 82 = .ok (.ifCond .le 10, 3) := dw_at cX13_follows_k3 (p := 6) rfl (by decide +kernel)
theorem dmX13_follows_85 : decode cX13_follows 85 = .ok (.aload_n 0, 1) := dw_at cX13_follows_k3 (p := 9) rfl (by decide +kernel)
theorem dmX13_follows_86 : decode cX13_follows 86 = .ok (.getfield 274, 3) := dw_at cX13_follows_k3 (p := 10) rfl (by decide +kernel)
theorem dmX13_follows_89 : decode cX13_follows 89 = .ok (.goto 7, 3) := dw_at cX13_follows_k3 (p := 13) rfl (by decide +kernel)
theorem dmX13_follows_92 : decode cX13_follows 92 = .ok (.aload_n 0, 1) := dw_at cX13_follows_k3 (p := 16) rfl (by decide +kernel)
theorem dmX13_follows_93 : decode cX13_follows 93 = .ok (.getfield 271, 3) := dw_at cX13_follows_k3 (p := 17) rfl (by decide +kernel)
theorem dmX13_follows_96 : decode cX13_follows 96 = .ok (.astore 7, 2) := dw_at cX13_follows_k3 (p := 20) rfl (by decide +kernel)
theorem dmX13_follows_98 : decode cX13_follows 98 = .ok (.aload_n 0, 1) := dw_at cX13_follows_k3 (p := 22) rfl (by decide +kernel)
theorem dmX13_follows_99 : decode cX13_follows 99 = .ok (.getfield 277, 3) := dw_at cX13_follows_k3 (p := 23) rfl (by decide +kernel)
theorem dmX13_follows_102 : decode cX13_follows 102 = .ok (.aload_n 0, 1) := dw_at cX13_follows_k4 (p := 0) rfl (by decide +kernel)
theorem dmX13_follows_103 : decode cX13_follows 103 = .ok (.getfield 241, 3) := dw_at cX13_follows_k4 (p := 1) rfl (by decide +kernel)
theorem dmX13_follows_106 : decode cX13_follows 106 = .ok (.iload 4, 2) := dw_at cX13_follows_k4 (p := 4) rfl (by decide +kernel)
theorem dmX13_follows_108 : decode cX13_follows 108 = .ok (.iaload, 1) := dw_at cX13_follows_k4 (p := 6) rfl (by decide +kernel)
theorem dmX13_follows_109 : decode cX13_follows 109 = .ok (.iaload, 1) := dw_at cX13_follows_k4 (p := 7) rfl (by decide +kernel)
theorem dmX13_follows_110 : decode cX13_follows 110 = .ok (.istore 8, 2) := dw_at cX13_follows_k4 (p := 8) rfl (by decide +kernel)
theorem dmX13_follows_112 : decode cX13_follows 112 = .ok (.aload_n 0, 1) := dw_at cX13_follows_k4 (p := 10) rfl (by decide +kernel)
theorem dmX13_follows_113 : decode cX13_follows 113 = .ok (.getfield 277, 3) := dw_at cX13_follows_k4 (p := 11) rfl (by decide +kernel)
theorem dmX13_follows_116 : decode cX13_follows 116 = .ok (.aload_n 0, 1) := dw_at cX13_follows_k4 (p := 14) rfl (by decide +kernel)
theorem dmX13_follows_117 : decode cX13_follows 117 = .ok (.getfield 244, 3) := dw_at cX13_follows_k4 (p := 15) rfl (by decide +kernel)
theorem dmX13_follows_120 : decode cX13_follows 120 = .ok (.iload 4, 2) := dw_at cX13_follows_k4 (p := 18) rfl (by decide +kernel)
theorem dmX13_follows_122 : decode cX13_follows 122 = .ok (.iaload, 1) := dw_at cX13_follows_k4 (p := 20) rfl (by decide +kernel)
theorem dmX13_follows_123 : decode cX13_follows 123 = .ok (.iaload, 1) := dw_at cX13_follows_k4 (p := 21) rfl (by decide +kernel)
theorem dmX13_follows_124 : decode cX13_follows 124 = .ok (.istore 9, 2) := dw_at cX13_follows_k4 (p := 22) rfl (by decide +kernel)
theorem dmX13_follows_126 : decode cX13_follows 126 = .ok (.iload 8, 2) := dw_at cX13_follows_k5 (p := 0) rfl (by decide +kernel)
theorem dmX13_follows_128 : decode cX13_follows 128 = .ok (.iconst (-1), 1) := dw_at cX13_follows_k5 (p := 2) rfl (by decide +kernel)
theorem dmX13_follows_129 : decode cX13_follows 129 = .ok (.if_icmp .eq 33, 3) := dw_at cX13_follows_k5 (p := 3) rfl (by decide +kernel)
theorem dmX13_follows_132 : decode cX13_follows 132 = .ok (.iload 9, 2) := dw_at cX13_follows_k5 (p := 6) rfl (by decide +kernel)
theorem dmX13_follows_134 : decode cX13_follows 134 = .ok (.iconst (-1), 1) := dw_at cX13_follows_k5 (p := 8) rfl (by decide +kernel)
theorem dmX13_follows_135 : decode cX13_follows 135 = .ok (.if_icmp .eq 27, 3) := dw_at cX13_follows_k5 (p := 9) rfl (by decide +kernel)
theorem dmX13_follows_138 : decode cX13_follows 138 = .ok (.aload 6, 2) := dw_at cX13_follows_k5 (p := 12) rfl (by decide +kernel)
theorem dmX13_follows_140 : decode cX13_follows 140 = .ok (.sipush 576, 3) := dw_at cX13_follows_k5 (p := 14) rfl (by decide +kernel)
theorem dmX13_follows_143 : decode cX13_follows 143 = .ok (.iload_n 2, 1) := dw_at cX13_follows_k5 (p := 17) rfl (by decide +kernel)
theorem dmX13_follows_144 : decode cX13_follows 144 = .ok (.imul, 1) := dw_at cX13_follows_k5 (p := 18) rfl (by decide +kernel)
theorem dmX13_follows_145 : decode cX13_follows 145 = .ok (.bipush 24, 2) := dw_at cX13_follows_k5 (p := 19) rfl (by decide +kernel)
theorem dmX13_follows_147 : decode cX13_follows 147 = .ok (.iload 5, 2) := dw_at cX13_follows_k5 (p := 21) rfl (by decide +kernel)
theorem dmX13_follows_149 : decode cX13_follows 149 = .ok (.imul, 1) := dw_at cX13_follows_k5 (p := 23) rfl (by decide +kernel)
theorem dmX13_follows_150 : decode cX13_follows 150 = .ok (.iadd, 1) := dw_at cX13_follows_k6 (p := 0) rfl (by decide +kernel)
theorem dmX13_follows_151 : decode cX13_follows 151 = .ok (.iload 8, 2) := dw_at cX13_follows_k6 (p := 1) rfl (by decide +kernel)
theorem dmX13_follows_153 : decode cX13_follows 153 = .ok (.iadd, 1) := dw_at cX13_follows_k6 (p := 3) rfl (by decide +kernel)
theorem dmX13_follows_154 : decode cX13_follows 154 = .ok (.iaload, 1) := dw_at cX13_follows_k6 (p := 4) rfl (by decide +kernel)
theorem dmX13_follows_155 : decode cX13_follows 155 = .ok (.iload 9, 2) := dw_at cX13_follows_k6 (p := 5) rfl (by decide +kernel)
theorem dmX13_follows_157 : decode cX13_follows 157 = .ok (.if_icmp .eq 5, 3) := dw_at cX13_follows_k6 (p := 7) rfl (by decide +kernel)
theorem dmX13_follows_160 : decode cX13_follows 160 = .ok (.iconst 0, 1) := dw_at cX13_follows_k6 (p := 10) rfl (by decide +kernel)
theorem dmX13_follows_161 : decode cX13_follows 161 = .ok (.ireturn, 1) := dw_at cX13_follows_k6 (p := 11) rfl (by decide +kernel)
theorem dmX13_follows_162 : decode cX13_follows 162 = .ok (.iload 8, 2) := dw_at cX13_follows_k6 (p := 12) rfl (by decide +kernel)
theorem dmX13_follows_164 : decode cX13_follows 164 = .ok (.iconst (-1), 1) := dw_at cX13_follows_k6 (p := 14) rfl (by decide +kernel)
theorem dmX13_follows_165 : decode cX13_follows 165 = .ok (.if_icmp .eq 42, 3) := dw_at cX13_follows_k6 (p := 15) rfl (by decide +kernel)
theorem dmX13_follows_168 : decode cX13_follows 168 = .ok (.iload 9, 2) := dw_at cX13_follows_k6 (p := 18) rfl (by decide +kernel)
theorem dmX13_follows_170 : decode cX13_follows 170 = .ok (.iconst (-1), 1) := dw_at cX13_follows_k6 (p := 20) rfl (by decide +kernel)
theorem dmX13_follows_171 : decode cX13_follows 171 = .ok (.if_icmp .ne 36, 3) := dw_at cX13_follows_k6 (p := 21) rfl (by decide +kernel)
theorem dmX13_follows_174 : decode cX13_follows 174 = .ok (.aload_n 0, 1) := dw_at cX13_follows_k7 (p := 0) rfl (by decide +kernel)
theorem dmX13_follows_175 : decode cX13_follows 175 = .ok (.aload_n 0, 1) := dw_at cX13_follows_k7 (p := 1) rfl (by decide +kernel)
theorem dmX13_follows_176 : decode cX13_follows 176 = .ok (.getfield 244, 3) := dw_at cX13_follows_k7 (p := 2) rfl (by decide +kernel)
theorem dmX13_follows_179 : decode cX13_follows 179 = .ok (.iload 4, 2) := dw_at cX13_follows_k7 (p := 5) rfl (by decide +kernel)
theorem dmX13_follows_181 : decode cX13_follows 181 = .ok (.iaload, 1) := dw_at cX13_follows_k7 (p := 7) rfl (by decide +kernel)
theorem dmX13_follows_182 : decode cX13_follows 182 = .ok (.aload 6, 2) := dw_at cX13_follows_k7 (p := 8) rfl (by decide +kernel)
theorem dmX13_follows_184 : decode cX13_follows 184 = .ok (.sipush 576, 3) := dw_at cX13_follows_k7 (p := 10) rfl (by decide +kernel)
theorem dmX13_follows_187 : decode cX13_follows 187 = .ok (.iload_n 2, 1) := dw_at cX13_follows_k7 (p := 13) rfl (by decide +kernel)
theorem dmX13_follows_188 : decode cX13_follows 188 = .ok (.imul, 1) := dw_at cX13_follows_k7 (p := 14) rfl (by decide +kernel)
theorem dmX13_follows_189 : decode cX13_follows 189 = .ok (.bipush 24, 2) := dw_at cX13_follows_k7 (p := 15) rfl (by decide +kernel)
theorem dmX13_follows_191 : decode cX13_follows 191 = .ok (.iload 5, 2) := dw_at cX13_follows_k7 (p := 17) rfl (by decide +kernel)
theorem dmX13_follows_193 : decode cX13_follows 193 = .ok (.imul, 1) := dw_at cX13_follows_k7 (p := 19) rfl (by decide +kernel)
theorem dmX13_follows_194 : decode cX13_follows 194 = .ok (.iadd, 1) := dw_at cX13_follows_k7 (p := 20) rfl (by decide +kernel)
theorem dmX13_follows_195 : decode cX13_follows 195 = .ok (.iload 8, 2) := dw_at cX13_follows_k7 (p := 21) rfl (by decide +kernel)
theorem dmX13_follows_197 : decode cX13_follows 197 = .ok (.iadd, 1) := dw_at cX13_follows_k7 (p := 23) rfl (by decide +kernel)
theorem dmX13_follows_198 : decode cX13_follows 198 = .ok (.iaload, 1) := dw_at cX13_follows_k8 (p := 0) rfl (by decide +kernel)
theorem dmX13_follows_199 : decode cX13_follows 199 = .ok (.invokevirtual 678, 3) := dw_at cX13_follows_k8 (p := 1) rfl (by decide +kernel)
theorem dmX13_follows_202 : decode cX13_follows 202 = .ok (.iconst 1, 1) := dw_at cX13_follows_k8 (p := 4) rfl (by decide +kernel)
theorem dmX13_follows_203 : decode cX13_follows 203 = .ok (.istore_n 3, 1) := dw_at cX13_follows_k8 (p := 5) rfl (by decide +kernel)
theorem dmX13_follows_204 : decode cX13_follows 204 = .ok (.goto 45, 3) := dw_at cX13_follows_k8 (p := 6) rfl (by decide +kernel)
theorem dmX13_follows_207 : decode cX13_follows 207 = .ok (.iload 8, 2) := dw_at cX13_follows_k8 (p := 9) rfl (by decide +kernel)
theorem dmX13_follows_209 : decode cX13_follows 209 = .ok (.iconst (-1), 1) := dw_at cX13_follows_k8 (p := 11) rfl (by decide +kernel)
theorem dmX13_follows_210 : decode cX13_follows 210 = .ok (.if_icmp .ne 39, 3) := dw_at cX13_follows_k8 (p := 12) rfl (by decide +kernel)
theorem dmX13_follows_213 : decode cX13_follows 213 = .ok (.iload 9, 2) := dw_at cX13_follows_k8 (p := 15) rfl (by decide +kernel)
theorem dmX13_follows_215 : decode cX13_follows 215 = .ok (.iconst (-1), 1) := dw_at cX13_follows_k8 (p := 17) rfl (by decide +kernel)
theorem dmX13_follows_216 : decode cX13_follows 216 = .ok (.if_icmp .eq 33, 3) := dw_at cX13_follows_k8 (p := 18) rfl (by decide +kernel)
theorem dmX13_follows_219 : decode cX13_follows 219 = .ok (.aload_n 0, 1) := dw_at cX13_follows_k8 (p := 21) rfl (by decide +kernel)
theorem dmX13_follows_220 : decode cX13_follows 220 = .ok (.aload_n 0, 1) := dw_at cX13_follows_k8 (p := 22) rfl (by decide +kernel)
theorem dmX13_follows_221 : decode cX13_follows 221 = .ok (.getfield 241, 3) := dw_at cX13_follows_k8 (p := 23) rfl (by decide +kernel)
theorem dmX13_follows_224 : decode cX13_follows 224 = .ok (.iload 4, 2) := dw_at cX13_follows_k9 (p := 0) rfl (by decide +kernel)
theorem dmX13_follows_226 : decode cX13_follows 226 = .ok (.iaload, 1) := dw_at cX13_follows_k9 (p := 2) rfl (by decide +kernel)
theorem dmX13_follows_227 : decode cX13_follows 227 = .ok (.aload 7, 2) := dw_at cX13_follows_k9 (p := 3) rfl (by decide +kernel)
theorem dmX13_follows_229 : decode cX13_follows 229 = .ok (.sipush 576, 3) := dw_at cX13_follows_k9 (p := 5) rfl (by decide +kernel)
theorem dmX13_follows_232 : decode cX13_follows 232 = .ok (.iload_n 2, 1) := dw_at cX13_follows_k9 (p := 8) rfl (by decide +kernel)
theorem dmX13_follows_233 : decode cX13_follows 233 = .ok (.imul, 1) := dw_at cX13_follows_k9 (p := 9) rfl (by decide +kernel)
theorem dmX13_follows_234 : decode cX13_follows 234 = .ok (.bipush 24, 2) := dw_at cX13_follows_k9 (p := 10) rfl (by decide +kernel)
theorem dmX13_follows_236 : decode cX13_follows 236 = .ok (.iload 5, 2) := dw_at cX13_follows_k9 (p := 12) rfl (by decide +kernel)
theorem dmX13_follows_238 : decode cX13_follows 238 = .ok (.imul, 1) := dw_at cX13_follows_k9 (p := 14) rfl (by decide +kernel)
theorem dmX13_follows_239 : decode cX13_follows 239 = .ok (.iadd, 1) := dw_at cX13_follows_k9 (p := 15) rfl (by decide +kernel)
theorem dmX13_follows_240 : decode cX13_follows 240 = .ok (.iload 9, 2) := dw_at cX13_follows_k9 (p := 16) rfl (by decide +kernel)
theorem dmX13_follows_242 : decode cX13_follows 242 = .ok (.iadd, 1) := dw_at cX13_follows_k9 (p := 18) rfl (by decide +kernel)
theorem dmX13_follows_243 : decode cX13_follows 243 = .ok (.iaload, 1) := dw_at cX13_follows_k9 (p := 19) rfl (by decide +kernel)
theorem dmX13_follows_244 : decode cX13_follows 244 = .ok (.invokevirtual 678, 3) := dw_at cX13_follows_k9 (p := 20) rfl (by decide +kernel)
theorem dmX13_follows_247 : decode cX13_follows 247 = .ok (.iconst 1, 1) := dw_at cX13_follows_k9 (p := 23) rfl (by decide +kernel)
theorem dmX13_follows_248 : decode cX13_follows 248 = .ok (.istore_n 3, 1) := dw_at cX13_follows_k10 (p := 0) rfl (by decide +kernel)
theorem dmX13_follows_249 : decode cX13_follows 249 = .ok (.iinc 4 1, 3) := dw_at cX13_follows_k10 (p := 1) rfl (by decide +kernel)
theorem dmX13_follows_252 : decode cX13_follows 252 = .ok (.goto (-241), 3) := dw_at cX13_follows_k10 (p := 4) rfl (by decide +kernel)
theorem dmX13_follows_255 : decode cX13_follows 255 = .ok (.goto (-253), 3) := dw_at cX13_follows_k10 (p := 7) rfl (by decide +kernel)
theorem dmX13_follows_258 : decode cX13_follows 258 = .ok (.iconst 1, 1) := dw_at cX13_follows_k10 (p := 10) rfl (by decide +kernel)
theorem dmX13_follows_259 : decode cX13_follows 259 = .ok (.ireturn, 1) := dw_at cX13_follows_k10 (p := 11) rfl (by decide +kernel)
def qm_X13_follows_0 (K : Nat) (go : Nat → Int32 → Int32 → Int32 → Int32 → Int32 → Int32 → Nat → Nat → Nat → Nat → ow_MS → Option (Int32 × ow_MS)) (x2 : Int32) (x3 : Int32) (x4 : Int32) (x5 : Int32) (x8 : Int32) (x9 : Int32) (r1 : Nat) (r6 : Nat) (r7 : Nat) (g0 : Nat) (z : ow_MS) : Option (Int32 × ow_MS) :=
 go 1 x2 1 0 0 0 0 r1 0 0 0 z
def qm_X13_follows_1 (K : Nat) (go : Nat → Int32 → Int32 → Int32 → Int32 → Int32 → Int32 → Nat → Nat → Nat → Nat → ow_MS → Option (Int32 × ow_MS)) (x2 : Int32) (x3 : Int32) (x4 : Int32) (x5 : Int32) (x8 : Int32) (x9 : Int32) (r1 : Nat) (r6 : Nat) (r7 : Nat) (g0 : Nat) (z : ow_MS) : Option (Int32 × ow_MS) :=
 (if x3 = 0 then okZ 1 (some (1, z))
 else go 2 x2 0 0 0 0 0 r1 0 0 0 z)
def qm_X13_follows_2 (K : Nat) (go : Nat → Int32 → Int32 → Int32 → Int32 → Int32 → Int32 → Nat → Nat → Nat → Nat → ow_MS → Option (Int32 × ow_MS)) (x2 : Int32) (x3 : Int32) (x4 : Int32) (x5 : Int32) (x8 : Int32) (x9 : Int32) (r1 : Nat) (r6 : Nat) (r7 : Nat) (g0 : Nat) (z : ow_MS) : Option (Int32 × ow_MS) :=
 rdF z (r1 + 1) fun v1 => nzI 2 ((if (v1 / 2) ≤ x4 then go 1 x2 x3 0 0 0 0 r1 0 0 0 z
 else rdI mX z 61 x4 fun v2 => rdI mX z 77 v2 fun v3 => rdI mX z 80 x4 fun v4 => (if v4 = 0 then go 7 x2 x3 x4 v3 0 0 r1 0 0 0 z
 else (if v3 = (-1) then go 7 x2 x3 x4 v3 0 0 r1 0 0 0 z
 else rdI mX z (r1 + 6) x4 fun v5 => (if v5 ≤ 0 then go 3 x2 x3 x4 v3 0 0 r1 0 0 76 z
 else go 3 x2 x3 x4 v3 0 0 r1 0 0 75 z)))))
def qm_X13_follows_3 (K : Nat) (go : Nat → Int32 → Int32 → Int32 → Int32 → Int32 → Int32 → Nat → Nat → Nat → Nat → ow_MS → Option (Int32 × ow_MS)) (x2 : Int32) (x3 : Int32) (x4 : Int32) (x5 : Int32) (x8 : Int32) (x9 : Int32) (r1 : Nat) (r6 : Nat) (r7 : Nat) (g0 : Nat) (z : ow_MS) : Option (Int32 × ow_MS) :=
 rdI mX z (r1 + 6) x4 fun v6 => (if v6 ≤ 0 then go 4 x2 x3 x4 x5 0 0 r1 g0 0 75 z
 else go 4 x2 x3 x4 x5 0 0 r1 g0 0 76 z)
def qm_X13_follows_4 (K : Nat) (go : Nat → Int32 → Int32 → Int32 → Int32 → Int32 → Int32 → Nat → Nat → Nat → Nat → ow_MS → Option (Int32 × ow_MS)) (x2 : Int32) (x3 : Int32) (x4 : Int32) (x5 : Int32) (x8 : Int32) (x9 : Int32) (r1 : Nat) (r6 : Nat) (r7 : Nat) (g0 : Nat) (z : ow_MS) : Option (Int32 × ow_MS) :=
 rdI mX z 62 x4 fun v7 => rdI mX z 77 v7 fun v8 => rdI mX z 63 x4 fun v9 => rdI mX z 77 v9 fun v10 => (if v8 = (-1) then go 5 x2 x3 x4 x5 v8 v10 r1 r6 g0 0 z
 else (if v10 = (-1) then go 5 x2 x3 x4 x5 v8 v10 r1 r6 g0 0 z
 else rdI mX z r6 (((576 * x2) + (24 * x5)) + v8) fun v11 => (if v11 = v10 then go 5 x2 x3 x4 x5 v8 v10 r1 r6 g0 0 z
 else okZ 0 (some (0, z)))))
def qm_X13_follows_5 (K : Nat) (go : Nat → Int32 → Int32 → Int32 → Int32 → Int32 → Int32 → Nat → Nat → Nat → Nat → ow_MS → Option (Int32 × ow_MS)) (x2 : Int32) (x3 : Int32) (x4 : Int32) (x5 : Int32) (x8 : Int32) (x9 : Int32) (r1 : Nat) (r6 : Nat) (r7 : Nat) (g0 : Nat) (z : ow_MS) : Option (Int32 × ow_MS) :=
 (if x8 = (-1) then go 6 x2 x3 x4 x5 x8 x9 r1 r6 r7 0 z
 else (if x9 = (-1) then rdI mX z 63 x4 fun v12 => rdI mX z r6 (((576 * x2) + (24 * x5)) + x8) fun v13 => cs0 (qe_X13_give K v12 v13 z) fun z14 => go 7 x2 1 x4 x5 0 0 r1 0 0 0 z14
 else go 6 x2 x3 x4 x5 x8 x9 r1 r6 r7 0 z))
def qm_X13_follows_6 (K : Nat) (go : Nat → Int32 → Int32 → Int32 → Int32 → Int32 → Int32 → Nat → Nat → Nat → Nat → ow_MS → Option (Int32 × ow_MS)) (x2 : Int32) (x3 : Int32) (x4 : Int32) (x5 : Int32) (x8 : Int32) (x9 : Int32) (r1 : Nat) (r6 : Nat) (r7 : Nat) (g0 : Nat) (z : ow_MS) : Option (Int32 × ow_MS) :=
 (if x8 = (-1) then (if x9 = (-1) then go 7 x2 x3 x4 x5 0 0 r1 0 0 0 z
 else rdI mX z 62 x4 fun v15 => rdI mX z r7 (((576 * x2) + (24 * x5)) + x9) fun v16 => cs0 (qe_X13_give K v15 v16 z) fun z17 => go 7 x2 1 x4 x5 0 0 r1 0 0 0 z17)
 else go 7 x2 x3 x4 x5 0 0 r1 0 0 0 z)
def qm_X13_follows_7 (K : Nat) (go : Nat → Int32 → Int32 → Int32 → Int32 → Int32 → Int32 → Nat → Nat → Nat → Nat → ow_MS → Option (Int32 × ow_MS)) (x2 : Int32) (x3 : Int32) (x4 : Int32) (x5 : Int32) (x8 : Int32) (x9 : Int32) (r1 : Nat) (r6 : Nat) (r7 : Nat) (g0 : Nat) (z : ow_MS) : Option (Int32 × ow_MS) :=
 go 2 x2 x3 (x4 + 1) 0 0 0 r1 0 0 0 z
def qb_X13_follows (K : Nat) (go : Nat → Int32 → Int32 → Int32 → Int32 → Int32 → Int32 → Nat → Nat → Nat → Nat → ow_MS → Option (Int32 × ow_MS)) (L : Nat) (x2 : Int32) (x3 : Int32) (x4 : Int32) (x5 : Int32) (x8 : Int32) (x9 : Int32) (r1 : Nat) (r6 : Nat) (r7 : Nat) (g0 : Nat) (z : ow_MS) : Option (Int32 × ow_MS) := match L with
  | 0 => qm_X13_follows_0 K go x2 x3 x4 x5 x8 x9 r1 r6 r7 g0 z
  | 1 => qm_X13_follows_1 K go x2 x3 x4 x5 x8 x9 r1 r6 r7 g0 z
  | 2 => qm_X13_follows_2 K go x2 x3 x4 x5 x8 x9 r1 r6 r7 g0 z
  | 3 => qm_X13_follows_3 K go x2 x3 x4 x5 x8 x9 r1 r6 r7 g0 z
  | 4 => qm_X13_follows_4 K go x2 x3 x4 x5 x8 x9 r1 r6 r7 g0 z
  | 5 => qm_X13_follows_5 K go x2 x3 x4 x5 x8 x9 r1 r6 r7 g0 z
  | 6 => qm_X13_follows_6 K go x2 x3 x4 x5 x8 x9 r1 r6 r7 g0 z
  | 7 => qm_X13_follows_7 K go x2 x3 x4 x5 x8 x9 r1 r6 r7 g0 z
  | _ => none
def q_X13_follows (K : Nat) : Nat → Nat → Int32 → Int32 → Int32 → Int32 → Int32 → Int32 → Nat → Nat → Nat → Nat → ow_MS → Option (Int32 × ow_MS)
  | 0 => fun _ _ _ _ _ _ _ _ _ _ _ _ => none
  | k + 1 => qb_X13_follows K (q_X13_follows K k)
def qe_X13_follows (K : Nat) (r1 : Nat) (x2 : Int32) (z : ow_MS) : Option (Int32 × ow_MS) := q_X13_follows K K 0 x2 0 0 0 0 0 r1 0 0 0 z
abbrev wm_X13_follows : List Cond := .code yX13_follows cX13_follows 10 (some .boolean) :: wM
theorem cd_X13_follows : yX13_follows.cls = RX13 ∧ yX13_follows.cls ≠ "java/lang/invoke/MethodHandle" ∧ yX13_follows.cls ≠ "java/lang/invoke/VarHandle" ∧ (parseMethodDescriptor yX13_follows.desc).map (fun d => d.parameters.length) = some 2 := by decide +kernel
set_option maxHeartbeats 4000000 in
set_option maxRecDepth 100000 in
theorem km_X13_follows (l : Launch) (D : va_G) (q : ow_Q5) (u : Nat → Nat) (hU : tw_inj mX u) (K : Nat) (r1 : Nat) (x2 : Int32) (hr1 : mw_net r1) (z z1 : ow_MS) (r : Int32) (hq : qe_X13_follows K r1 x2 z = some (r, z1)) : Met l yX13_follows wm_X13_follows ({ frames := 1, cells := 0, slots := 0, locals := 22 } : Room) (va_Pc [.ref (u 0), .ref (u r1), .int x2] (mw_pre D q u z)) (va_Qi (fun x (_ : Unit) => x = r) (fun _ t => va_P D vwCl (tw mX q u z1) t.heap) (tw_A mX u)) 0 0 (tw_A mX u) := by
  refine Met.ofW (cc := cX13_follows) (maxL := 10) (ret := (some .boolean)) (by decide) rfl ?_
  intro p e s m args below meth c s₁ B hml hv
  obtain ⟨rfl, hP, hK, hN⟩ := hv
  have hx := B.exec
  have hb := B.bytes
  have hr := B.returns
  have hts := atoms_spec (ws := wm_X13_follows) B.pre
  have hT : ∀ w ∈ wM, w.before ([.ref (u 0), .ref (u r1), .int x2] : List Value).toArray s = true := fun w h => hts w (List.mem_cons_of_mem _ h)
  have hown : s.vm.findClass RX13 = some m.cls := findClass_of_methodNamed B.named
  have hlocks := B.notSynchronized
  have hM : tw_M D vwCl mX q s.heap u z s.heap [] := ⟨hP, va_S.rf⟩
  have hl := lv_entry ([.ref (u 0), .ref (u r1), .int x2]) (n := 10) (Nat.le_of_ble_eq_true rfl)
  rw [lg_entry_eq]
  generalize (lg_sl ([.ref (u 0), .ref (u r1), .int x2]) ++ List.replicate (10 - (lg_sl ([.ref (u 0), .ref (u r1), .int x2])).length) Slot.unset).toArray = ls at hl ⊢
  have hl : lv_has ls 10 [(0, .ref (u 0)), (1, .ref (u r1)), (2, .int x2)] := hl
  refine ow_named (fun QQ hQQ => ?_)
  generalize ([.ref (u 0), .ref (u r1), .int x2] : List Value).toArray = args at hts hT hQQ ⊢
  have key : ∀ k : Nat, (∀ (x2 : Int32) (x3 : Int32) (x4 : Int32) (x5 : Int32) (x8 : Int32) (x9 : Int32) (r1 : Nat) (r6 : Nat) (r7 : Nat) (g0 : Nat) (z : ow_MS) (H : Heap) (locs : List Loc) (ls : Array Slot), mw_net r1 → tw_M D vwCl mX q s.heap u z H locs → lv_has ls 10 [(0, .ref (u 0)), (1, .ref (u r1)), (2, .int x2)] → q_X13_follows K k 0 x2 x3 x4 x5 x8 x9 r1 r6 r7 g0 z = some (r, z1) → W p l e ({ frames := 1, cells := 0, slots := 0, locals := 22 } : Room) s m args below meth c H locs 0 0 QQ (F0 m 0 ls [])) ∧ (∀ (x2 : Int32) (x3 : Int32) (x4 : Int32) (x5 : Int32) (x8 : Int32) (x9 : Int32) (r1 : Nat) (r6 : Nat) (r7 : Nat) (g0 : Nat) (z : ow_MS) (H : Heap) (locs : List Loc) (ls : Array Slot), mw_net r1 → tw_M D vwCl mX q s.heap u z H locs → lv_has ls 10 [(0, .ref (u 0)), (1, .ref (u r1)), (2, .int x2), (3, .int x3)] → q_X13_follows K k 1 x2 x3 x4 x5 x8 x9 r1 r6 r7 g0 z = some (r, z1) → W p l e ({ frames := 1, cells := 0, slots := 0, locals := 22 } : Room) s m args below meth c H locs 0 0 QQ (F0 m 2 ls [])) ∧ (∀ (x2 : Int32) (x3 : Int32) (x4 : Int32) (x5 : Int32) (x8 : Int32) (x9 : Int32) (r1 : Nat) (r6 : Nat) (r7 : Nat) (g0 : Nat) (z : ow_MS) (H : Heap) (locs : List Loc) (ls : Array Slot), mw_net r1 → tw_M D vwCl mX q s.heap u z H locs → lv_has ls 10 [(0, .ref (u 0)), (1, .ref (u r1)), (2, .int x2), (3, .int x3), (4, .int x4)] → q_X13_follows K k 2 x2 x3 x4 x5 x8 x9 r1 r6 r7 g0 z = some (r, z1) → W p l e ({ frames := 1, cells := 0, slots := 0, locals := 22 } : Room) s m args below meth c H locs 0 0 QQ (F0 m 11 ls [])) ∧ (∀ (x2 : Int32) (x3 : Int32) (x4 : Int32) (x5 : Int32) (x8 : Int32) (x9 : Int32) (r1 : Nat) (r6 : Nat) (r7 : Nat) (g0 : Nat) (z : ow_MS) (H : Heap) (locs : List Loc) (ls : Array Slot), mw_net r1 → tw_in mX g0 0 → tw_M D vwCl mX q s.heap u z H locs → lv_has ls 10 [(0, .ref (u 0)), (1, .ref (u r1)), (2, .int x2), (3, .int x3), (4, .int x4), (5, .int x5)] → q_X13_follows K k 3 x2 x3 x4 x5 x8 x9 r1 r6 r7 g0 z = some (r, z1) → W p l e ({ frames := 1, cells := 0, slots := 0, locals := 22 } : Room) s m args below meth c H locs 0 0 QQ (F0 m 73 ls [.ref (u g0)])) ∧ (∀ (x2 : Int32) (x3 : Int32) (x4 : Int32) (x5 : Int32) (x8 : Int32) (x9 : Int32) (r1 : Nat) (r6 : Nat) (r7 : Nat) (g0 : Nat) (z : ow_MS) (H : Heap) (locs : List Loc) (ls : Array Slot), mw_net r1 → tw_in mX r6 0 → tw_in mX g0 0 → tw_M D vwCl mX q s.heap u z H locs → lv_has ls 10 [(0, .ref (u 0)), (1, .ref (u r1)), (2, .int x2), (3, .int x3), (4, .int x4), (5, .int x5), (6, .ref (u r6))] → q_X13_follows K k 4 x2 x3 x4 x5 x8 x9 r1 r6 r7 g0 z = some (r, z1) → W p l e ({ frames := 1, cells := 0, slots := 0, locals := 22 } : Room) s m args below meth c H locs 0 0 QQ (F0 m 96 ls [.ref (u g0)])) ∧ (∀ (x2 : Int32) (x3 : Int32) (x4 : Int32) (x5 : Int32) (x8 : Int32) (x9 : Int32) (r1 : Nat) (r6 : Nat) (r7 : Nat) (g0 : Nat) (z : ow_MS) (H : Heap) (locs : List Loc) (ls : Array Slot), mw_net r1 → tw_in mX r6 0 → tw_in mX r7 0 → tw_M D vwCl mX q s.heap u z H locs → lv_has ls 10 [(0, .ref (u 0)), (1, .ref (u r1)), (2, .int x2), (3, .int x3), (4, .int x4), (5, .int x5), (6, .ref (u r6)), (7, .ref (u r7)), (8, .int x8), (9, .int x9)] → q_X13_follows K k 5 x2 x3 x4 x5 x8 x9 r1 r6 r7 g0 z = some (r, z1) → W p l e ({ frames := 1, cells := 0, slots := 0, locals := 22 } : Room) s m args below meth c H locs 0 0 QQ (F0 m 162 ls [])) ∧ (∀ (x2 : Int32) (x3 : Int32) (x4 : Int32) (x5 : Int32) (x8 : Int32) (x9 : Int32) (r1 : Nat) (r6 : Nat) (r7 : Nat) (g0 : Nat) (z : ow_MS) (H : Heap) (locs : List Loc) (ls : Array Slot), mw_net r1 → tw_in mX r6 0 → tw_in mX r7 0 → tw_M D vwCl mX q s.heap u z H locs → lv_has ls 10 [(0, .ref (u 0)), (1, .ref (u r1)), (2, .int x2), (3, .int x3), (4, .int x4), (5, .int x5), (6, .ref (u r6)), (7, .ref (u r7)), (8, .int x8), (9, .int x9)] → q_X13_follows K k 6 x2 x3 x4 x5 x8 x9 r1 r6 r7 g0 z = some (r, z1) → W p l e ({ frames := 1, cells := 0, slots := 0, locals := 22 } : Room) s m args below meth c H locs 0 0 QQ (F0 m 207 ls [])) ∧ (∀ (x2 : Int32) (x3 : Int32) (x4 : Int32) (x5 : Int32) (x8 : Int32) (x9 : Int32) (r1 : Nat) (r6 : Nat) (r7 : Nat) (g0 : Nat) (z : ow_MS) (H : Heap) (locs : List Loc) (ls : Array Slot), mw_net r1 → tw_M D vwCl mX q s.heap u z H locs → lv_has ls 10 [(0, .ref (u 0)), (1, .ref (u r1)), (2, .int x2), (3, .int x3), (4, .int x4), (5, .int x5)] → q_X13_follows K k 7 x2 x3 x4 x5 x8 x9 r1 r6 r7 g0 z = some (r, z1) → W p l e ({ frames := 1, cells := 0, slots := 0, locals := 22 } : Room) s m args below meth c H locs 0 0 QQ (F0 m 249 ls [])) := by
    intro k
    induction k with
    | zero => exact ⟨fun _ _ _ _ _ _ _ _ _ _ _ _ _ _ _ _ _ hq => tw_no hq, fun _ _ _ _ _ _ _ _ _ _ _ _ _ _ _ _ _ hq => tw_no hq, fun _ _ _ _ _ _ _ _ _ _ _ _ _ _ _ _ _ hq => tw_no hq, fun _ _ _ _ _ _ _ _ _ _ _ _ _ _ _ _ _ _ hq => tw_no hq, fun _ _ _ _ _ _ _ _ _ _ _ _ _ _ _ _ _ _ _ hq => tw_no hq, fun _ _ _ _ _ _ _ _ _ _ _ _ _ _ _ _ _ _ _ hq => tw_no hq, fun _ _ _ _ _ _ _ _ _ _ _ _ _ _ _ _ _ _ _ hq => tw_no hq, fun _ _ _ _ _ _ _ _ _ _ _ _ _ _ _ _ _ hq => tw_no hq⟩
    | succ k ih =>
      obtain ⟨ih_0, ih_1, ih_2, ih_3, ih_4, ih_5, ih_6, ih_7⟩ := ih
      refine ⟨?_, ?_, ?_, ?_, ?_, ?_, ?_, ?_⟩
      · intro x2 x3 x4 x5 x8 x9 r1 r6 r7 g0 z H locs ls hr1 hM hl hq
        have hq : qm_X13_follows_0 K (q_X13_follows K k) x2 x3 x4 x5 x8 x9 r1 r6 r7 g0 z = some (r, z1) := hq
        unfold qm_X13_follows_0 at hq
        refine lv_iconst (v := 1) hx hb dmX13_follows_0 (by decide) ?_
        refine lv_istore_n (lv' := [(3, .int 1), (0, .ref (u 0)), (1, .ref (u r1)), (2, .int x2)]) hx hb dmX13_follows_1 rfl hl (by decide) rfl (fun ls hl => ?_)
        exact ih_1 x2 1 0 0 0 0 r1 0 0 0 z H locs ls hr1 hM (lv_sub hl [1, 2, 3, 0] rfl) hq
      · intro x2 x3 x4 x5 x8 x9 r1 r6 r7 g0 z H locs ls hr1 hM hl hq
        have hq : qm_X13_follows_1 K (q_X13_follows K k) x2 x3 x4 x5 x8 x9 r1 r6 r7 g0 z = some (r, z1) := hq
        unfold qm_X13_follows_1 at hq
        refine lv_iload_n hx hb dmX13_follows_2 rfl (lv_at hl 3 rfl) ?_
        refine lv_if_eq (tgt := 258) hx hb dmX13_follows_3 (by decide) (fun hc => ?_) (fun hc => ?_)
        · have hq := tw_it hq hc
          refine lv_iconst (v := 1) hx hb dmX13_follows_258 (by decide) ?_
          obtain ⟨hz, hq⟩ := tw_gZ hq
          exact mw_zret hx hb hr hlocks hM hz hq hQQ dmX13_follows_259
        · have hq := tw_if hq hc
          refine lv_iconst (v := 0) hx hb dmX13_follows_6 (by decide) ?_
          refine lv_istore_n (lv' := [(3, .int 0), (0, .ref (u 0)), (1, .ref (u r1)), (2, .int x2)]) hx hb dmX13_follows_7 rfl hl (by decide) rfl (fun ls hl => ?_)
          refine lv_iconst (v := 0) hx hb dmX13_follows_8 (by decide) ?_
          refine lv_istore (lv' := [(4, .int 0), (3, .int 0), (0, .ref (u 0)), (1, .ref (u r1)), (2, .int x2)]) hx hb dmX13_follows_9 hl (by decide) rfl (fun ls hl => ?_)
          exact ih_2 x2 0 0 0 0 0 r1 0 0 0 z H locs ls hr1 hM (lv_sub hl [2, 3, 4, 1, 0] rfl) hq
      · intro x2 x3 x4 x5 x8 x9 r1 r6 r7 g0 z H locs ls hr1 hM hl hq
        have hq : qm_X13_follows_2 K (q_X13_follows K k) x2 x3 x4 x5 x8 x9 r1 r6 r7 g0 z = some (r, z1) := hq
        unfold qm_X13_follows_2 at hq
        refine lv_iload hx hb dmX13_follows_11 (lv_at hl 4 rfl) ?_
        refine lv_aload_n hx hb dmX13_follows_13 rfl (lv_at hl 1 rfl) ?_
        refine mg13_44 hx hb hT hown hK hM hN hr1 hq dmX13_follows_14 (fun v1 hq => ?_)
        refine lv_iconst (v := 2) hx hb dmX13_follows_17 (by decide) ?_
        obtain ⟨hz, hq⟩ := tw_nzI hq
        refine lv_idiv hx hb dmX13_follows_18 hz ?_
        refine lv_icmp_ge (tgt := 255) hx hb dmX13_follows_19 (by decide) (fun hc => ?_) (fun hc => ?_)
        · have hq := tw_it hq hc
          refine lv_goto (tgt := 2) hx hb dmX13_follows_255 (by decide) ?_
          exact ih_1 x2 x3 0 0 0 0 r1 0 0 0 z H locs ls hr1 hM (lv_sub hl [0, 1, 2, 3] rfl) hq
        · have hq := tw_if hq hc
          refine lv_aload_n hx hb dmX13_follows_22 rfl (lv_at hl 0 rfl) ?_
          refine mg13_277 hx hb hT hown hK hM dmX13_follows_23 ?_
          refine lv_aload_n hx hb dmX13_follows_26 rfl (lv_at hl 0 rfl) ?_
          refine mg13_238 hx hb hT hown hK hM dmX13_follows_27 ?_
          refine lv_iload hx hb dmX13_follows_30 (lv_at hl 4 rfl) ?_
          refine tw_iald mX_ok hx hb hK hM mr_61 hq dmX13_follows_32 (fun v2 hq => ?_)
          refine tw_iald mX_ok hx hb hK hM mr_77 hq dmX13_follows_33 (fun v3 hq => ?_)
          refine lv_istore (lv' := [(5, .int v3), (0, .ref (u 0)), (1, .ref (u r1)), (2, .int x2), (3, .int x3), (4, .int x4)]) hx hb dmX13_follows_34 hl (by decide) rfl (fun ls hl => ?_)
          refine lv_aload_n hx hb dmX13_follows_36 rfl (lv_at hl 1 rfl) ?_
          refine mg13_283 hx hb hT hown hK hM dmX13_follows_37 ?_
          refine lv_iload hx hb dmX13_follows_40 (lv_at hl 5 rfl) ?_
          refine tw_zald mX_ok hx hb hK hM mr_80 hq dmX13_follows_42 (fun v4 hq => ?_)
          refine lv_if_eq (tgt := 249) hx hb dmX13_follows_43 (by decide) (fun hc => ?_) (fun hc => ?_)
          · have hq := tw_it hq hc
            exact ih_7 x2 x3 x4 v3 0 0 r1 0 0 0 z H locs ls hr1 hM (lv_sub hl [1, 2, 3, 4, 5, 0] rfl) hq
          · have hq := tw_if hq hc
            refine lv_iload hx hb dmX13_follows_46 (lv_at hl 0 rfl) ?_
            refine lv_iconst (v := (-1)) hx hb dmX13_follows_48 (by decide) ?_
            refine lv_icmp_eq (tgt := 249) hx hb dmX13_follows_49 (by decide) (fun hc => ?_) (fun hc => ?_)
            · have hq := tw_it hq hc
              exact ih_7 x2 x3 x4 v3 0 0 r1 0 0 0 z H locs ls hr1 hM (lv_sub hl [1, 2, 3, 4, 5, 0] rfl) hq
            · have hq := tw_if hq hc
              refine lv_aload_n hx hb dmX13_follows_52 rfl (lv_at hl 2 rfl) ?_
              refine mg13_35 hx hb hT hown hK hM hN hr1 dmX13_follows_53 ?_
              refine lv_iload hx hb dmX13_follows_56 (lv_at hl 5 rfl) ?_
              refine tw_iald mX_ok hx hb hK hM (mrn_6 hr1) hq dmX13_follows_58 (fun v5 hq => ?_)
              refine lv_if_le (tgt := 69) hx hb dmX13_follows_59 (by decide) (fun hc => ?_) (fun hc => ?_)
              · have hq := tw_it hq hc
                refine lv_aload_n hx hb dmX13_follows_69 rfl (lv_at hl 1 rfl) ?_
                refine mg13_274 hx hb hT hown hK hM dmX13_follows_70 ?_
                exact ih_3 x2 x3 x4 v3 0 0 r1 0 0 76 z H locs ls hr1 mr_76 hM (lv_sub hl [1, 2, 3, 4, 5, 0] rfl) hq
              · have hq := tw_if hq hc
                refine lv_aload_n hx hb dmX13_follows_62 rfl (lv_at hl 1 rfl) ?_
                refine mg13_271 hx hb hT hown hK hM dmX13_follows_63 ?_
                refine lv_goto (tgt := 73) hx hb dmX13_follows_66 (by decide) ?_
                exact ih_3 x2 x3 x4 v3 0 0 r1 0 0 75 z H locs ls hr1 mr_75 hM (lv_sub hl [1, 2, 3, 4, 5, 0] rfl) hq
      · intro x2 x3 x4 x5 x8 x9 r1 r6 r7 g0 z H locs ls hr1 hg0 hM hl hq
        have hq : qm_X13_follows_3 K (q_X13_follows K k) x2 x3 x4 x5 x8 x9 r1 r6 r7 g0 z = some (r, z1) := hq
        unfold qm_X13_follows_3 at hq
        refine lv_astore (lv' := [(6, .ref (u g0)), (0, .ref (u 0)), (1, .ref (u r1)), (2, .int x2), (3, .int x3), (4, .int x4), (5, .int x5)]) hx hb dmX13_follows_73 hl (by decide) rfl (fun ls hl => ?_)
        refine lv_aload_n hx hb dmX13_follows_75 rfl (lv_at hl 2 rfl) ?_
        refine mg13_35 hx hb hT hown hK hM hN hr1 dmX13_follows_76 ?_
        refine lv_iload hx hb dmX13_follows_79 (lv_at hl 5 rfl) ?_
        refine tw_iald mX_ok hx hb hK hM (mrn_6 hr1) hq dmX13_follows_81 (fun v6 hq => ?_)
        refine lv_if_le (tgt := 92) hx hb dmX13_follows_82 (by decide) (fun hc => ?_) (fun hc => ?_)
        · have hq := tw_it hq hc
          refine lv_aload_n hx hb dmX13_follows_92 rfl (lv_at hl 1 rfl) ?_
          refine mg13_271 hx hb hT hown hK hM dmX13_follows_93 ?_
          exact ih_4 x2 x3 x4 x5 0 0 r1 g0 0 75 z H locs ls hr1 hg0 mr_75 hM (lv_sub hl [1, 2, 3, 4, 5, 6, 0] rfl) hq
        · have hq := tw_if hq hc
          refine lv_aload_n hx hb dmX13_follows_85 rfl (lv_at hl 1 rfl) ?_
          refine mg13_274 hx hb hT hown hK hM dmX13_follows_86 ?_
          refine lv_goto (tgt := 96) hx hb dmX13_follows_89 (by decide) ?_
          exact ih_4 x2 x3 x4 x5 0 0 r1 g0 0 76 z H locs ls hr1 hg0 mr_76 hM (lv_sub hl [1, 2, 3, 4, 5, 6, 0] rfl) hq
      · intro x2 x3 x4 x5 x8 x9 r1 r6 r7 g0 z H locs ls hr1 hr6 hg0 hM hl hq
        have hq : qm_X13_follows_4 K (q_X13_follows K k) x2 x3 x4 x5 x8 x9 r1 r6 r7 g0 z = some (r, z1) := hq
        unfold qm_X13_follows_4 at hq
        refine lv_astore (lv' := [(7, .ref (u g0)), (0, .ref (u 0)), (1, .ref (u r1)), (2, .int x2), (3, .int x3), (4, .int x4), (5, .int x5), (6, .ref (u r6))]) hx hb dmX13_follows_96 hl (by decide) rfl (fun ls hl => ?_)
        refine lv_aload_n hx hb dmX13_follows_98 rfl (lv_at hl 1 rfl) ?_
        refine mg13_277 hx hb hT hown hK hM dmX13_follows_99 ?_
        refine lv_aload_n hx hb dmX13_follows_102 rfl (lv_at hl 1 rfl) ?_
        refine mg13_241 hx hb hT hown hK hM dmX13_follows_103 ?_
        refine lv_iload hx hb dmX13_follows_106 (lv_at hl 5 rfl) ?_
        refine tw_iald mX_ok hx hb hK hM mr_62 hq dmX13_follows_108 (fun v7 hq => ?_)
        refine tw_iald mX_ok hx hb hK hM mr_77 hq dmX13_follows_109 (fun v8 hq => ?_)
        refine lv_istore (lv' := [(8, .int v8), (7, .ref (u g0)), (0, .ref (u 0)), (1, .ref (u r1)), (2, .int x2), (3, .int x3), (4, .int x4), (5, .int x5), (6, .ref (u r6))]) hx hb dmX13_follows_110 hl (by decide) rfl (fun ls hl => ?_)
        refine lv_aload_n hx hb dmX13_follows_112 rfl (lv_at hl 2 rfl) ?_
        refine mg13_277 hx hb hT hown hK hM dmX13_follows_113 ?_
        refine lv_aload_n hx hb dmX13_follows_116 rfl (lv_at hl 2 rfl) ?_
        refine mg13_244 hx hb hT hown hK hM dmX13_follows_117 ?_
        refine lv_iload hx hb dmX13_follows_120 (lv_at hl 6 rfl) ?_
        refine tw_iald mX_ok hx hb hK hM mr_63 hq dmX13_follows_122 (fun v9 hq => ?_)
        refine tw_iald mX_ok hx hb hK hM mr_77 hq dmX13_follows_123 (fun v10 hq => ?_)
        refine lv_istore (lv' := [(9, .int v10), (8, .int v8), (7, .ref (u g0)), (0, .ref (u 0)), (1, .ref (u r1)), (2, .int x2), (3, .int x3), (4, .int x4), (5, .int x5), (6, .ref (u r6))]) hx hb dmX13_follows_124 hl (by decide) rfl (fun ls hl => ?_)
        refine lv_iload hx hb dmX13_follows_126 (lv_at hl 1 rfl) ?_
        refine lv_iconst (v := (-1)) hx hb dmX13_follows_128 (by decide) ?_
        refine lv_icmp_eq (tgt := 162) hx hb dmX13_follows_129 (by decide) (fun hc => ?_) (fun hc => ?_)
        · have hq := tw_it hq hc
          exact ih_5 x2 x3 x4 x5 v8 v10 r1 r6 g0 0 z H locs ls hr1 hr6 hg0 hM (lv_sub hl [3, 4, 5, 6, 7, 8, 9, 2, 1, 0] rfl) hq
        · have hq := tw_if hq hc
          refine lv_iload hx hb dmX13_follows_132 (lv_at hl 0 rfl) ?_
          refine lv_iconst (v := (-1)) hx hb dmX13_follows_134 (by decide) ?_
          refine lv_icmp_eq (tgt := 162) hx hb dmX13_follows_135 (by decide) (fun hc => ?_) (fun hc => ?_)
          · have hq := tw_it hq hc
            exact ih_5 x2 x3 x4 x5 v8 v10 r1 r6 g0 0 z H locs ls hr1 hr6 hg0 hM (lv_sub hl [3, 4, 5, 6, 7, 8, 9, 2, 1, 0] rfl) hq
          · have hq := tw_if hq hc
            refine lv_aload hx hb dmX13_follows_138 (lv_at hl 9 rfl) ?_
            refine lv_sipush (v := 576) hx hb dmX13_follows_140 (by decide) ?_
            refine lv_iload_n hx hb dmX13_follows_143 rfl (lv_at hl 5 rfl) ?_
            refine lv_imul hx hb dmX13_follows_144 ?_
            refine lv_bipush (v := 24) hx hb dmX13_follows_145 (by decide) ?_
            refine lv_iload hx hb dmX13_follows_147 (lv_at hl 8 rfl) ?_
            refine lv_imul hx hb dmX13_follows_149 ?_
            refine lv_iadd hx hb dmX13_follows_150 ?_
            refine lv_iload hx hb dmX13_follows_151 (lv_at hl 1 rfl) ?_
            refine lv_iadd hx hb dmX13_follows_153 ?_
            refine tw_iald mX_ok hx hb hK hM hr6 hq dmX13_follows_154 (fun v11 hq => ?_)
            refine lv_iload hx hb dmX13_follows_155 (lv_at hl 0 rfl) ?_
            refine lv_icmp_eq (tgt := 162) hx hb dmX13_follows_157 (by decide) (fun hc => ?_) (fun hc => ?_)
            · have hq := tw_it hq hc
              exact ih_5 x2 x3 x4 x5 v8 v10 r1 r6 g0 0 z H locs ls hr1 hr6 hg0 hM (lv_sub hl [3, 4, 5, 6, 7, 8, 9, 2, 1, 0] rfl) hq
            · have hq := tw_if hq hc
              refine lv_iconst (v := 0) hx hb dmX13_follows_160 (by decide) ?_
              obtain ⟨hz, hq⟩ := tw_gZ hq
              exact mw_zret hx hb hr hlocks hM hz hq hQQ dmX13_follows_161
      · intro x2 x3 x4 x5 x8 x9 r1 r6 r7 g0 z H locs ls hr1 hr6 hr7 hM hl hq
        have hq : qm_X13_follows_5 K (q_X13_follows K k) x2 x3 x4 x5 x8 x9 r1 r6 r7 g0 z = some (r, z1) := hq
        unfold qm_X13_follows_5 at hq
        refine lv_iload hx hb dmX13_follows_162 (lv_at hl 8 rfl) ?_
        refine lv_iconst (v := (-1)) hx hb dmX13_follows_164 (by decide) ?_
        refine lv_icmp_eq (tgt := 207) hx hb dmX13_follows_165 (by decide) (fun hc => ?_) (fun hc => ?_)
        · have hq := tw_it hq hc
          exact ih_6 x2 x3 x4 x5 x8 x9 r1 r6 r7 0 z H locs ls hr1 hr6 hr7 hM (lv_sub hl [0, 1, 2, 3, 4, 5, 6, 7, 8, 9] rfl) hq
        · have hq := tw_if hq hc
          refine lv_iload hx hb dmX13_follows_168 (lv_at hl 9 rfl) ?_
          refine lv_iconst (v := (-1)) hx hb dmX13_follows_170 (by decide) ?_
          refine lv_icmp_ne (tgt := 207) hx hb dmX13_follows_171 (by decide) (fun hc => ?_) (fun hc => ?_)
          · have hq := tw_if hq hc
            exact ih_6 x2 x3 x4 x5 x8 x9 r1 r6 r7 0 z H locs ls hr1 hr6 hr7 hM (lv_sub hl [0, 1, 2, 3, 4, 5, 6, 7, 8, 9] rfl) hq
          · have hq := tw_it hq hc
            refine lv_aload_n hx hb dmX13_follows_174 rfl (lv_at hl 0 rfl) ?_
            refine lv_aload_n hx hb dmX13_follows_175 rfl (lv_at hl 0 rfl) ?_
            refine mg13_244 hx hb hT hown hK hM dmX13_follows_176 ?_
            refine lv_iload hx hb dmX13_follows_179 (lv_at hl 4 rfl) ?_
            refine tw_iald mX_ok hx hb hK hM mr_63 hq dmX13_follows_181 (fun v12 hq => ?_)
            refine lv_aload hx hb dmX13_follows_182 (lv_at hl 6 rfl) ?_
            refine lv_sipush (v := 576) hx hb dmX13_follows_184 (by decide) ?_
            refine lv_iload_n hx hb dmX13_follows_187 rfl (lv_at hl 2 rfl) ?_
            refine lv_imul hx hb dmX13_follows_188 ?_
            refine lv_bipush (v := 24) hx hb dmX13_follows_189 (by decide) ?_
            refine lv_iload hx hb dmX13_follows_191 (lv_at hl 5 rfl) ?_
            refine lv_imul hx hb dmX13_follows_193 ?_
            refine lv_iadd hx hb dmX13_follows_194 ?_
            refine lv_iload hx hb dmX13_follows_195 (lv_at hl 8 rfl) ?_
            refine lv_iadd hx hb dmX13_follows_197 ?_
            refine tw_iald mX_ok hx hb hK hM hr6 hq dmX13_follows_198 (fun v13 hq => ?_)
            obtain ⟨z14, hcq, hq⟩ := tw_cl0 hq
            refine tw_calv hM (va_runV (As := [.int v12, .int v13]) (rest := []) ⟨hx, hb, hml, hown, hts⟩ (km_X13_give l D q u hU K v12 v13 z z14 hcq) (cwV 2 hts (tw_gV wM_good wq_415 wq_416 wq_417 wq_61 wq_411) rfl rfl rfl cd_X13_give ⟨(Nat.le_of_ble_eq_true rfl), (Nat.le_of_ble_eq_true rfl)⟩) (mw_preV hK hN hM mo_0 rfl) rfl rfl hl.1 rfl (lv_room (Nat.le_of_ble_eq_true rfl)) dmX13_follows_199 ⟨(Nat.le_of_ble_eq_true rfl), (Nat.le_of_ble_eq_true rfl)⟩) (fun H locs hM => ?_)
            refine lv_iconst (v := 1) hx hb dmX13_follows_202 (by decide) ?_
            refine lv_istore_n (lv' := [(3, .int 1), (0, .ref (u 0)), (1, .ref (u r1)), (2, .int x2), (4, .int x4), (5, .int x5), (6, .ref (u r6)), (7, .ref (u r7)), (8, .int x8), (9, .int x9)]) hx hb dmX13_follows_203 rfl hl (by decide) rfl (fun ls hl => ?_)
            refine lv_goto (tgt := 249) hx hb dmX13_follows_204 (by decide) ?_
            exact ih_7 x2 1 x4 x5 0 0 r1 0 0 0 z14 H locs ls hr1 hM (lv_sub hl [1, 2, 3, 0, 4, 5] rfl) hq
      · intro x2 x3 x4 x5 x8 x9 r1 r6 r7 g0 z H locs ls hr1 hr6 hr7 hM hl hq
        have hq : qm_X13_follows_6 K (q_X13_follows K k) x2 x3 x4 x5 x8 x9 r1 r6 r7 g0 z = some (r, z1) := hq
        unfold qm_X13_follows_6 at hq
        refine lv_iload hx hb dmX13_follows_207 (lv_at hl 8 rfl) ?_
        refine lv_iconst (v := (-1)) hx hb dmX13_follows_209 (by decide) ?_
        refine lv_icmp_ne (tgt := 249) hx hb dmX13_follows_210 (by decide) (fun hc => ?_) (fun hc => ?_)
        · have hq := tw_if hq hc
          exact ih_7 x2 x3 x4 x5 0 0 r1 0 0 0 z H locs ls hr1 hM (lv_sub hl [0, 1, 2, 3, 4, 5] rfl) hq
        · have hq := tw_it hq hc
          refine lv_iload hx hb dmX13_follows_213 (lv_at hl 9 rfl) ?_
          refine lv_iconst (v := (-1)) hx hb dmX13_follows_215 (by decide) ?_
          refine lv_icmp_eq (tgt := 249) hx hb dmX13_follows_216 (by decide) (fun hc => ?_) (fun hc => ?_)
          · have hq := tw_it hq hc
            exact ih_7 x2 x3 x4 x5 0 0 r1 0 0 0 z H locs ls hr1 hM (lv_sub hl [0, 1, 2, 3, 4, 5] rfl) hq
          · have hq := tw_if hq hc
            refine lv_aload_n hx hb dmX13_follows_219 rfl (lv_at hl 0 rfl) ?_
            refine lv_aload_n hx hb dmX13_follows_220 rfl (lv_at hl 0 rfl) ?_
            refine mg13_241 hx hb hT hown hK hM dmX13_follows_221 ?_
            refine lv_iload hx hb dmX13_follows_224 (lv_at hl 4 rfl) ?_
            refine tw_iald mX_ok hx hb hK hM mr_62 hq dmX13_follows_226 (fun v15 hq => ?_)
            refine lv_aload hx hb dmX13_follows_227 (lv_at hl 7 rfl) ?_
            refine lv_sipush (v := 576) hx hb dmX13_follows_229 (by decide) ?_
            refine lv_iload_n hx hb dmX13_follows_232 rfl (lv_at hl 2 rfl) ?_
            refine lv_imul hx hb dmX13_follows_233 ?_
            refine lv_bipush (v := 24) hx hb dmX13_follows_234 (by decide) ?_
            refine lv_iload hx hb dmX13_follows_236 (lv_at hl 5 rfl) ?_
            refine lv_imul hx hb dmX13_follows_238 ?_
            refine lv_iadd hx hb dmX13_follows_239 ?_
            refine lv_iload hx hb dmX13_follows_240 (lv_at hl 9 rfl) ?_
            refine lv_iadd hx hb dmX13_follows_242 ?_
            refine tw_iald mX_ok hx hb hK hM hr7 hq dmX13_follows_243 (fun v16 hq => ?_)
            obtain ⟨z17, hcq, hq⟩ := tw_cl0 hq
            refine tw_calv hM (va_runV (As := [.int v15, .int v16]) (rest := []) ⟨hx, hb, hml, hown, hts⟩ (km_X13_give l D q u hU K v15 v16 z z17 hcq) (cwV 2 hts (tw_gV wM_good wq_415 wq_416 wq_417 wq_61 wq_411) rfl rfl rfl cd_X13_give ⟨(Nat.le_of_ble_eq_true rfl), (Nat.le_of_ble_eq_true rfl)⟩) (mw_preV hK hN hM mo_0 rfl) rfl rfl hl.1 rfl (lv_room (Nat.le_of_ble_eq_true rfl)) dmX13_follows_244 ⟨(Nat.le_of_ble_eq_true rfl), (Nat.le_of_ble_eq_true rfl)⟩) (fun H locs hM => ?_)
            refine lv_iconst (v := 1) hx hb dmX13_follows_247 (by decide) ?_
            refine lv_istore_n (lv' := [(3, .int 1), (0, .ref (u 0)), (1, .ref (u r1)), (2, .int x2), (4, .int x4), (5, .int x5), (6, .ref (u r6)), (7, .ref (u r7)), (8, .int x8), (9, .int x9)]) hx hb dmX13_follows_248 rfl hl (by decide) rfl (fun ls hl => ?_)
            exact ih_7 x2 1 x4 x5 0 0 r1 0 0 0 z17 H locs ls hr1 hM (lv_sub hl [1, 2, 3, 0, 4, 5] rfl) hq
      · intro x2 x3 x4 x5 x8 x9 r1 r6 r7 g0 z H locs ls hr1 hM hl hq
        have hq : qm_X13_follows_7 K (q_X13_follows K k) x2 x3 x4 x5 x8 x9 r1 r6 r7 g0 z = some (r, z1) := hq
        unfold qm_X13_follows_7 at hq
        refine lv_iinc (v := (x4 + 1)) (lv' := [(4, .int (x4 + 1)), (0, .ref (u 0)), (1, .ref (u r1)), (2, .int x2), (3, .int x3), (5, .int x5)]) hx hb dmX13_follows_249 hl (k := 4) rfl rfl (by decide) rfl (fun ls hl => ?_)
        refine lv_goto (tgt := 11) hx hb dmX13_follows_252 (by decide) ?_
        exact ih_2 x2 x3 (x4 + 1) 0 0 0 r1 0 0 0 z H locs ls hr1 hM (lv_sub hl [1, 2, 3, 4, 0] rfl) hq
  exact (key K).1 x2 0 0 0 0 0 r1 0 0 0 z s.heap [] ls hr1 hM (lv_sub hl [0, 1, 2] rfl) hq
theorem dmX13_takeBack_0 : decode cX13_takeBack 0 = .ok (.aload_n 0, 1) := by decide +kernel
theorem dmX13_takeBack_1 : decode cX13_takeBack 1 = .ok (.getfield 675, 3) := by decide +kernel
theorem dmX13_takeBack_4 : decode cX13_takeBack 4 = .ok (.iload_n 1, 1) := by decide +kernel
theorem dmX13_takeBack_5 : decode cX13_takeBack 5 = .ok (.if_icmp .le 31, 3) := by decide +kernel
theorem dmX13_takeBack_8 : decode cX13_takeBack 8 = .ok (.aload_n 0, 1) := by decide +kernel
theorem dmX13_takeBack_9 : decode cX13_takeBack 9 = .ok (.dup, 1) := by decide +kernel
theorem dmX13_takeBack_10 : decode cX13_takeBack 10 = .ok (.getfield 675, 3) := by decide +kernel
theorem dmX13_takeBack_13 : decode cX13_takeBack 13 = .ok (.iconst 1, 1) := by decide +kernel
theorem dmX13_takeBack_14 : decode cX13_takeBack 14 = .ok (.isub, 1) := by decide +kernel
theorem dmX13_takeBack_15 : decode cX13_takeBack 15 = .ok (.putfield 675, 3) := by decide +kernel
theorem dmX13_takeBack_18 : decode cX13_takeBack 18 = .ok (.aload_n 0, 1) := by decide +kernel
theorem dmX13_takeBack_19 : decode cX13_takeBack 19 = .ok (.getfield 277, 3) := by decide +kernel
theorem dmX13_takeBack_22 : decode cX13_takeBack 22 = .ok (.aload_n 0, 1) := by decide +kernel
theorem dmX13_takeBack_23 : decode cX13_takeBack 23 = .ok (.getfield 280, 3) := by decide +kernel
theorem dmX13_takeBack_26 : decode cX13_takeBack 26 = .ok (.aload_n 0, 1) := by decide +kernel
theorem dmX13_takeBack_27 : decode cX13_takeBack 27 = .ok (.getfield 675, 3) := by decide +kernel
theorem dmX13_takeBack_30 : decode cX13_takeBack 30 = .ok (.iaload, 1) := by decide +kernel
theorem dmX13_takeBack_31 : decode cX13_takeBack 31 = .ok (.iconst (-1), 1) := by decide +kernel
theorem dmX13_takeBack_32 : decode cX13_takeBack 32 = .ok (.iastore, 1) := by decide +kernel
theorem dmX13_takeBack_33 : decode cX13_takeBack 33 = .ok (.goto (-33), 3) := by decide +kernel
theorem dmX13_takeBack_36 : decode cX13_takeBack 36 = .ok (.return_, 1) := by decide +kernel
def qm_X13_takeBack_0 (K : Nat) (go : Nat → Int32 → ow_MS → Option ow_MS) (x1 : Int32) (z : ow_MS) : Option ow_MS :=
 rdF z 79 fun v1 => (if v1 ≤ x1 then some z
 else rdF z 79 fun v2 => wrF z 79 (v2 - 1) fun z3 => rdF z3 79 fun v4 => rdI mX z3 78 v4 fun v5 => wrI mX z3 77 v5 (-1) fun z6 => go 0 x1 z6)
def qb_X13_takeBack (K : Nat) (go : Nat → Int32 → ow_MS → Option ow_MS) (L : Nat) (x1 : Int32) (z : ow_MS) : Option ow_MS := match L with
  | 0 => qm_X13_takeBack_0 K go x1 z
  | _ => none
def q_X13_takeBack (K : Nat) : Nat → Nat → Int32 → ow_MS → Option ow_MS
  | 0 => fun _ _ _ => none
  | k + 1 => qb_X13_takeBack K (q_X13_takeBack K k)
def qe_X13_takeBack (K : Nat) (x1 : Int32) (z : ow_MS) : Option ow_MS := q_X13_takeBack K K 0 x1 z
abbrev wm_X13_takeBack : List Cond := .code yX13_takeBack cX13_takeBack 2 none :: wM
theorem cd_X13_takeBack : yX13_takeBack.cls = RX13 ∧ yX13_takeBack.cls ≠ "java/lang/invoke/MethodHandle" ∧ yX13_takeBack.cls ≠ "java/lang/invoke/VarHandle" ∧ (parseMethodDescriptor yX13_takeBack.desc).map (fun d => d.parameters.length) = some 1 := by decide +kernel
set_option maxHeartbeats 4000000 in
set_option maxRecDepth 100000 in
theorem km_X13_takeBack (l : Launch) (D : va_G) (q : ow_Q5) (u : Nat → Nat) (hU : tw_inj mX u) (K : Nat) (x1 : Int32)  (z z1 : ow_MS) (hq : qe_X13_takeBack K x1 z = some z1) : Met l yX13_takeBack wm_X13_takeBack ({ frames := 0, cells := 0, slots := 0, locals := 0 } : Room) (va_Pc [.ref (u 0), .int x1] (mw_pre D q u z)) (va_Qv (fun (_ : Unit) => True) (fun _ t => va_P D vwCl (tw mX q u z1) t.heap) (tw_A mX u)) 0 0 (tw_A mX u) := by
  refine Met.ofW (cc := cX13_takeBack) (maxL := 2) (ret := none) (by decide) rfl ?_
  intro p e s m args below meth c s₁ B hml hv
  obtain ⟨rfl, hP, hK, hN⟩ := hv
  have hx := B.exec
  have hb := B.bytes
  have hr := B.returns
  have hts := atoms_spec (ws := wm_X13_takeBack) B.pre
  have hT : ∀ w ∈ wM, w.before ([.ref (u 0), .int x1] : List Value).toArray s = true := fun w h => hts w (List.mem_cons_of_mem _ h)
  have hown : s.vm.findClass RX13 = some m.cls := findClass_of_methodNamed B.named
  have hlocks := B.notSynchronized
  have hM : tw_M D vwCl mX q s.heap u z s.heap [] := ⟨hP, va_S.rf⟩
  have hl := lv_entry ([.ref (u 0), .int x1]) (n := 2) (Nat.le_of_ble_eq_true rfl)
  rw [lg_entry_eq]
  generalize (lg_sl ([.ref (u 0), .int x1]) ++ List.replicate (2 - (lg_sl ([.ref (u 0), .int x1])).length) Slot.unset).toArray = ls at hl ⊢
  have hl : lv_has ls 2 [(0, .ref (u 0)), (1, .int x1)] := hl
  refine ow_named (fun QQ hQQ => ?_)
  generalize ([.ref (u 0), .int x1] : List Value).toArray = args at hts hT hQQ ⊢
  have key : ∀ k : Nat, (∀ (x1 : Int32) (z : ow_MS) (H : Heap) (locs : List Loc) (ls : Array Slot), tw_M D vwCl mX q s.heap u z H locs → lv_has ls 2 [(0, .ref (u 0)), (1, .int x1)] → q_X13_takeBack K k 0 x1 z = some z1 → W p l e ({ frames := 0, cells := 0, slots := 0, locals := 0 } : Room) s m args below meth c H locs 0 0 QQ (F0 m 0 ls [])) := by
    intro k
    induction k with
    | zero => exact fun _ _ _ _ _  _ _ hq => tw_no hq
    | succ k ih_0 =>
      refine ?_
      · intro x1 z H locs ls  hM hl hq
        have hq : qm_X13_takeBack_0 K (q_X13_takeBack K k) x1 z = some z1 := hq
        unfold qm_X13_takeBack_0 at hq
        refine lv_aload_n hx hb dmX13_takeBack_0 rfl (lv_at hl 0 rfl) ?_
        refine mg13_675 hx hb hT hown hK hM hq dmX13_takeBack_1 (fun v1 hq => ?_)
        refine lv_iload_n hx hb dmX13_takeBack_4 rfl (lv_at hl 1 rfl) ?_
        refine lv_icmp_le (tgt := 36) hx hb dmX13_takeBack_5 (by decide) (fun hc => ?_) (fun hc => ?_)
        · have hq := tw_it hq hc
          exact mw_vret hx hb hr hlocks hM hq hQQ dmX13_takeBack_36
        · have hq := tw_if hq hc
          refine lv_aload_n hx hb dmX13_takeBack_8 rfl (lv_at hl 0 rfl) ?_
          refine lv_dup hx hb dmX13_takeBack_9 rfl ?_
          refine mg13_675 hx hb hT hown hK hM hq dmX13_takeBack_10 (fun v2 hq => ?_)
          refine lv_iconst (v := 1) hx hb dmX13_takeBack_13 (by decide) ?_
          refine lv_isub hx hb dmX13_takeBack_14 ?_
          refine mp13_675 hx hb hT hown hK hM hU hq dmX13_takeBack_15 (fun z3 H locs hM hq => ?_)
          refine lv_aload_n hx hb dmX13_takeBack_18 rfl (lv_at hl 0 rfl) ?_
          refine mg13_277 hx hb hT hown hK hM dmX13_takeBack_19 ?_
          refine lv_aload_n hx hb dmX13_takeBack_22 rfl (lv_at hl 0 rfl) ?_
          refine mg13_280 hx hb hT hown hK hM dmX13_takeBack_23 ?_
          refine lv_aload_n hx hb dmX13_takeBack_26 rfl (lv_at hl 0 rfl) ?_
          refine mg13_675 hx hb hT hown hK hM hq dmX13_takeBack_27 (fun v4 hq => ?_)
          refine tw_iald mX_ok hx hb hK hM mr_78 hq dmX13_takeBack_30 (fun v5 hq => ?_)
          refine lv_iconst (v := (-1)) hx hb dmX13_takeBack_31 (by decide) ?_
          refine tw_iast mX_ok hU hx hb hK hM mr_77 hq dmX13_takeBack_32 (fun z6 H locs hM hq => ?_)
          refine lv_goto (tgt := 0) hx hb dmX13_takeBack_33 (by decide) ?_
          exact ih_0 x1 z6 H locs ls hM (lv_sub hl [0, 1] rfl) hq
  exact (key K) x1 z s.heap [] ls  hM (lv_sub hl [0, 1] rfl) hq
theorem dmX13_mapsOf_0 : decode cX13_mapsOf 0 = .ok (.aload_n 0, 1) := dw_at cX13_mapsOf_k0 (p := 0) rfl (by decide +kernel)
theorem dmX13_mapsOf_1 : decode cX13_mapsOf 1 = .ok (.getfield 675, 3) := dw_at cX13_mapsOf_k0 (p := 1) rfl (by decide +kernel)
theorem dmX13_mapsOf_4 : decode cX13_mapsOf 4 = .ok (.istore_n 3, 1) := dw_at cX13_mapsOf_k0 (p := 4) rfl (by decide +kernel)
theorem dmX13_mapsOf_5 : decode cX13_mapsOf 5 = .ok (.iconst 0, 1) := dw_at cX13_mapsOf_k0 (p := 5) rfl (by decide +kernel)
theorem dmX13_mapsOf_6 : decode cX13_mapsOf 6 = .ok (.istore 4, 2) := dw_at cX13_mapsOf_k0 (p := 6) rfl (by decide +kernel)
theorem dmX13_mapsOf_8 : decode cX13_mapsOf 8 = .ok (.aload_n 0, 1) := dw_at cX13_mapsOf_k0 (p := 8) rfl (by decide +kernel)
theorem dmX13_mapsOf_9 : decode cX13_mapsOf 9 = .ok (.aload_n 1, 1) := dw_at cX13_mapsOf_k0 (p := 9) rfl (by decide +kernel)
theorem dmX13_mapsOf_10 : decode cX13_mapsOf 10 = .ok (.iload_n 2, 1) := dw_at cX13_mapsOf_k0 (p := 10) rfl (by decide +kernel)
theorem dmX13_mapsOf_11 : decode cX13_mapsOf 11 = .ok (.invokevirtual 681, 3) := dw_at cX13_mapsOf_k0 (p := 11) rfl (by decide +kernel)
theorem dmX13_mapsOf_14 : decode cX13_mapsOf 14 = .ok (.ifCond .eq 186, 3) := dw_at cX13_mapsOf_k0 (p := 14) rfl (by decide +kernel)
theorem dmX13_mapsOf_17 : decode cX13_mapsOf 17 = .ok (.iconst (-1), 1) := dw_at cX13_mapsOf_k0 (p := 17) rfl (by decide +kernel)
theorem dmX13_mapsOf_18 : decode cX13_mapsOf 18 = .ok (.istore 5, 2) := dw_at cX13_mapsOf_k0 (p := 18) rfl (by decide +kernel)
theorem dmX13_mapsOf_20 : decode cX13_mapsOf 20 = .ok (.iconst 0, 1) := dw_at cX13_mapsOf_k0 (p := 20) rfl (by decide +kernel)
theorem dmX13_mapsOf_21 : decode cX13_mapsOf 21 = .ok (.istore 6, 2) := dw_at cX13_mapsOf_k0 (p := 21) rfl (by decide +kernel)
theorem dmX13_mapsOf_23 : decode cX13_mapsOf 23 = .ok (.iload 6, 2) := dw_at cX13_mapsOf_k0 (p := 23) rfl (by decide +kernel)
theorem dmX13_mapsOf_25 : decode cX13_mapsOf 25 = .ok (.aload_n 1, 1) := dw_at cX13_mapsOf_k1 (p := 0) rfl (by decide +kernel)
theorem dmX13_mapsOf_26 : decode cX13_mapsOf 26 = .ok (.getfield 44, 3) := dw_at cX13_mapsOf_k1 (p := 1) rfl (by decide +kernel)
theorem dmX13_mapsOf_29 : decode cX13_mapsOf 29 = .ok (.iconst 2, 1) := dw_at cX13_mapsOf_k1 (p := 4) rfl (by decide +kernel)
theorem dmX13_mapsOf_30 : decode cX13_mapsOf 30 = .ok (.idiv, 1) := dw_at cX13_mapsOf_k1 (p := 5) rfl (by decide +kernel)
theorem dmX13_mapsOf_31 : decode cX13_mapsOf 31 = .ok (.if_icmp .ge 106, 3) := dw_at cX13_mapsOf_k1 (p := 6) rfl (by decide +kernel)
theorem dmX13_mapsOf_34 : decode cX13_mapsOf 34 = .ok (.iload 5, 2) := dw_at cX13_mapsOf_k1 (p := 9) rfl (by decide +kernel)
theorem dmX13_mapsOf_36 : decode cX13_mapsOf 36 = .ok (.iconst (-1), 1) := dw_at cX13_mapsOf_k1 (p := 11) rfl (by decide +kernel)
theorem dmX13_mapsOf_37 : decode cX13_mapsOf 37 = .ok (.if_icmp .ne 100, 3) := dw_at cX13_mapsOf_k1 (p := 12) rfl (by decide +kernel)
theorem dmX13_mapsOf_40 : decode cX13_mapsOf 40 = .ok (.aload_n 0, 1) := dw_at cX13_mapsOf_k1 (p := 15) rfl (by decide +kernel)
theorem dmX13_mapsOf_41 : decode cX13_mapsOf 41 = .ok (.getfield 283, 3) := dw_at cX13_mapsOf_k1 (p := 16) rfl (by decide +kernel)
theorem dmX13_mapsOf_44 : decode cX13_mapsOf 44 = .ok (.iload 6, 2) := dw_at cX13_mapsOf_k1 (p := 19) rfl (by decide +kernel)
theorem dmX13_mapsOf_46 : decode cX13_mapsOf 46 = .ok (.baload, 1) := dw_at cX13_mapsOf_k1 (p := 21) rfl (by decide +kernel)
theorem dmX13_mapsOf_47 : decode cX13_mapsOf 47 = .ok (.ifCond .eq 84, 3) := dw_at cX13_mapsOf_k1 (p := 22) rfl (by decide +kernel)
theorem dmX13_mapsOf_50 : decode cX13_mapsOf 50 = .ok (.aload_n 0, 1) := dw_at cX13_mapsOf_k2 (p := 0) rfl (by decide +kernel)
theorem dmX13_mapsOf_51 : decode cX13_mapsOf 51 = .ok (.getfield 277, 3) := dw_at cX13_mapsOf_k2 (p := 1) rfl (by decide +kernel)
theorem dmX13_mapsOf_54 : decode cX13_mapsOf 54 = .ok (.aload_n 0, 1) := dw_at cX13_mapsOf_k2 (p := 4) rfl (by decide +kernel)
theorem dmX13_mapsOf_55 : decode cX13_mapsOf 55 = .ok (.getfield 238, 3) := dw_at cX13_mapsOf_k2 (p := 5) rfl (by decide +kernel)
theorem dmX13_mapsOf_58 : decode cX13_mapsOf 58 = .ok (.iload 6, 2) := dw_at cX13_mapsOf_k2 (p := 8) rfl (by decide +kernel)
theorem dmX13_mapsOf_60 : decode cX13_mapsOf 60 = .ok (.iaload, 1) := dw_at cX13_mapsOf_k2 (p := 10) rfl (by decide +kernel)
theorem dmX13_mapsOf_61 : decode cX13_mapsOf 61 = .ok (.iaload, 1) := dw_at cX13_mapsOf_k2 (p := 11) rfl (by decide +kernel)
theorem dmX13_mapsOf_62 : decode cX13_mapsOf 62 = .ok (.iconst (-1), 1) := dw_at cX13_mapsOf_k2 (p := 12) rfl (by decide +kernel)
theorem dmX13_mapsOf_63 : decode cX13_mapsOf 63 = .ok (.if_icmp .ne 13, 3) := dw_at cX13_mapsOf_k2 (p := 13) rfl (by decide +kernel)
theorem dmX13_mapsOf_66 : decode cX13_mapsOf 66 = .ok (.aload_n 0, 1) := dw_at cX13_mapsOf_k2 (p := 16) rfl (by decide +kernel)
theorem dmX13_mapsOf_67 : decode cX13_mapsOf 67 = .ok (.getfield 238, 3) := dw_at cX13_mapsOf_k2 (p := 17) rfl (by decide +kernel)
theorem dmX13_mapsOf_70 : decode cX13_mapsOf 70 = .ok (.iload 6, 2) := dw_at cX13_mapsOf_k2 (p := 20) rfl (by decide +kernel)
theorem dmX13_mapsOf_72 : decode cX13_mapsOf 72 = .ok (.iaload, 1) := dw_at cX13_mapsOf_k2 (p := 22) rfl (by decide +kernel)
theorem dmX13_mapsOf_73 : decode cX13_mapsOf 73 = .ok (.goto 56, 3) := dw_at cX13_mapsOf_k2 (p := 23) rfl (by decide +kernel)
theorem dmX13_mapsOf_76 : decode cX13_mapsOf 76 = .ok (.aload_n 0, 1) := dw_at cX13_mapsOf_k3 (p := 0) rfl (by decide +kernel)
theorem dmX13_mapsOf_77 : decode cX13_mapsOf 77 = .ok (.getfield 277, 3) := dw_at cX13_mapsOf_k3 (p := 1) rfl (by decide +kernel)
theorem dmX13_mapsOf_80 : decode cX13_mapsOf 80 = .ok (.aload_n 0, 1) := dw_at cX13_mapsOf_k3 (p := 4) rfl (by decide +kernel)
theorem dmX13_mapsOf_81 : decode cX13_mapsOf 81 = .ok (.getfield 241, 3) := dw_at cX13_mapsOf_k3 (p := 5) rfl (by decide +kernel)
theorem dmX13_mapsOf_84 : decode cX13_mapsOf 84 = .ok (.iload 6, 2) := dw_at cX13_mapsOf_k3 (p := 8) rfl (by decide +kernel)
theorem dmX13_mapsOf_86 : decode cX13_mapsOf 86 = .ok (.iaload, 1) := dw_at cX13_mapsOf_k3 (p := 10) rfl (by decide +kernel)
theorem dmX13_mapsOf_87 : decode cX13_mapsOf 87 = .ok (.iaload, 1) := dw_at cX13_mapsOf_k3 (p := 11) rfl (by decide +kernel)
theorem dmX13_mapsOf_88 : decode cX13_mapsOf 88 = .ok (.iconst (-1), 1) := dw_at cX13_mapsOf_k3 (p := 12) rfl (by decide +kernel)
theorem dmX13_mapsOf_89 : decode cX13_mapsOf 89 = .ok (.if_icmp .ne 13, 3) := dw_at cX13_mapsOf_k3 (p := 13) rfl (by decide +kernel)
theorem dmX13_mapsOf_92 : decode cX13_mapsOf 92 = .ok (.aload_n 0, 1) := dw_at cX13_mapsOf_k3 (p := 16) rfl (by decide +kernel)
theorem dmX13_mapsOf_93 : decode cX13_mapsOf 93 = .ok (.getfield 241, 3) := dw_at cX13_mapsOf_k3 (p := 17) rfl (by decide +kernel)
theorem dmX13_mapsOf_96 : decode cX13_mapsOf 96 = .ok (.iload 6, 2) := dw_at cX13_mapsOf_k3 (p := 20) rfl (by decide +kernel)
theorem dmX13_mapsOf_98 : decode cX13_mapsOf 98 = .ok (.iaload, 1) := dw_at cX13_mapsOf_k3 (p := 22) rfl (by decide +kernel)
theorem dmX13_mapsOf_99 : decode cX13_mapsOf 99 = .ok (.goto 30, 3) := dw_at cX13_mapsOf_k3 (p := 23) rfl (by decide +kernel)
theorem dmX13_mapsOf_102 : decode cX13_mapsOf 102 = .ok (.aload_n 0, 1) := dw_at cX13_mapsOf_k4 (p := 0) rfl (by decide +kernel)
theorem dmX13_mapsOf_103 : decode cX13_mapsOf 103 = .ok (.getfield 277, 3) := dw_at cX13_mapsOf_k4 (p := 1) rfl (by decide +kernel)
theorem dmX13_mapsOf_106 : decode cX13_mapsOf 106 = .ok (.aload_n 0, 1) := dw_at cX13_mapsOf_k4 (p := 4) rfl (by decide +kernel)
theorem dmX13_mapsOf_107 : decode cX13_mapsOf 107 = .ok (.getfield 244, 3) := dw_at cX13_mapsOf_k4 (p := 5) rfl (by decide +kernel)
theorem dmX13_mapsOf_110 : decode cX13_mapsOf 110 = .ok (.iload 6, 2) := dw_at cX13_mapsOf_k4 (p := 8) rfl (by decide +kernel)
theorem dmX13_mapsOf_112 : decode cX13_mapsOf 112 = .ok (.iaload, 1) := dw_at cX13_mapsOf_k4 (p := 10) rfl (by decide +kernel)
theorem dmX13_mapsOf_113 : decode cX13_mapsOf 113 = .ok (.iaload, 1) := dw_at cX13_mapsOf_k4 (p := 11) rfl (by decide +kernel)
theorem dmX13_mapsOf_114 : decode cX13_mapsOf 114 = .ok (.iconst (-1), 1) := dw_at cX13_mapsOf_k4 (p := 12) rfl (by decide +kernel)
theorem dmX13_mapsOf_115 : decode cX13_mapsOf 115 = .ok (.if_icmp .ne 13, 3) := dw_at cX13_mapsOf_k4 (p := 13) rfl (by decide +kernel)
theorem dmX13_mapsOf_118 : decode cX13_mapsOf 118 = .ok (.aload_n 0, 1) := dw_at cX13_mapsOf_k4 (p := 16) rfl (by decide +kernel)
theorem dmX13_mapsOf_119 : decode cX13_mapsOf 119 = .ok (.getfield 244, 3) := dw_at cX13_mapsOf_k4 (p := 17) rfl (by decide +kernel)
theorem dmX13_mapsOf_122 : decode cX13_mapsOf 122 = .ok (.iload 6, 2) := dw_at cX13_mapsOf_k4 (p := 20) rfl (by decide +kernel)
theorem dmX13_mapsOf_124 : decode cX13_mapsOf 124 = .ok (.iaload, 1) := dw_at cX13_mapsOf_k4 (p := 22) rfl (by decide +kernel)
theorem dmX13_mapsOf_125 : decode cX13_mapsOf 125 = .ok (.goto 4, 3) := dw_at cX13_mapsOf_k4 (p := 23) rfl (by decide +kernel)
theorem dmX13_mapsOf_128 : decode cX13_mapsOf 128 = .ok (.iconst (-1), 1) := dw_at cX13_mapsOf_k5 (p := 0) rfl (by decide +kernel)
theorem dmX13_mapsOf_129 : decode cX13_mapsOf 129 = .ok (.istore 5, 2) := dw_at cX13_mapsOf_k5 (p := 1) rfl (by decide +kernel)
theorem dmX13_mapsOf_131 : decode cX13_mapsOf 131 = .ok (.iinc 6 1, 3) := dw_at cX13_mapsOf_k5 (p := 3) rfl (by decide +kernel)
theorem dmX13_mapsOf_134 : decode cX13_mapsOf 134 = .ok (.goto (-111), 3) := dw_at cX13_mapsOf_k5 (p := 6) rfl (by decide +kernel)
theorem dmX13_mapsOf_137 : decode cX13_mapsOf 137 = .ok (.iload 5, 2) := dw_at cX13_mapsOf_k5 (p := 9) rfl (by decide +kernel)
theorem dmX13_mapsOf_139 : decode cX13_mapsOf 139 = .ok (.iconst (-1), 1) := dw_at cX13_mapsOf_k5 (p := 11) rfl (by decide +kernel)
theorem dmX13_mapsOf_140 : decode cX13_mapsOf 140 = .ok (.if_icmp .ne 9, 3) := dw_at cX13_mapsOf_k5 (p := 12) rfl (by decide +kernel)
theorem dmX13_mapsOf_143 : decode cX13_mapsOf 143 = .ok (.iconst 1, 1) := dw_at cX13_mapsOf_k5 (p := 15) rfl (by decide +kernel)
theorem dmX13_mapsOf_144 : decode cX13_mapsOf 144 = .ok (.istore 4, 2) := dw_at cX13_mapsOf_k5 (p := 16) rfl (by decide +kernel)
theorem dmX13_mapsOf_146 : decode cX13_mapsOf 146 = .ok (.goto 54, 3) := dw_at cX13_mapsOf_k5 (p := 18) rfl (by decide +kernel)
theorem dmX13_mapsOf_149 : decode cX13_mapsOf 149 = .ok (.aload_n 0, 1) := dw_at cX13_mapsOf_k5 (p := 21) rfl (by decide +kernel)
theorem dmX13_mapsOf_150 : decode cX13_mapsOf 150 = .ok (.getfield 675, 3) := dw_at cX13_mapsOf_k5 (p := 22) rfl (by decide +kernel)
theorem dmX13_mapsOf_153 : decode cX13_mapsOf 153 = .ok (.istore 6, 2) := dw_at cX13_mapsOf_k6 (p := 0) rfl (by decide +kernel)
theorem dmX13_mapsOf_155 : decode cX13_mapsOf 155 = .ok (.iconst 0, 1) := dw_at cX13_mapsOf_k6 (p := 2) rfl (by decide +kernel)
theorem dmX13_mapsOf_156 : decode cX13_mapsOf 156 = .ok (.istore 7, 2) := dw_at cX13_mapsOf_k6 (p := 3) rfl (by decide +kernel)
theorem dmX13_mapsOf_158 : decode cX13_mapsOf 158 = .ok (.iload 7, 2) := dw_at cX13_mapsOf_k6 (p := 5) rfl (by decide +kernel)
theorem dmX13_mapsOf_160 : decode cX13_mapsOf 160 = .ok (.aload_n 0, 1) := dw_at cX13_mapsOf_k6 (p := 7) rfl (by decide +kernel)
theorem dmX13_mapsOf_161 : decode cX13_mapsOf 161 = .ok (.getfield 265, 3) := dw_at cX13_mapsOf_k6 (p := 8) rfl (by decide +kernel)
theorem dmX13_mapsOf_164 : decode cX13_mapsOf 164 = .ok (.iload_n 2, 1) := dw_at cX13_mapsOf_k6 (p := 11) rfl (by decide +kernel)
theorem dmX13_mapsOf_165 : decode cX13_mapsOf 165 = .ok (.iaload, 1) := dw_at cX13_mapsOf_k6 (p := 12) rfl (by decide +kernel)
theorem dmX13_mapsOf_166 : decode cX13_mapsOf 166 = .ok (.if_icmp .ge 34, 3) := dw_at cX13_mapsOf_k6 (p := 13) rfl (by decide +kernel)
theorem dmX13_mapsOf_169 : decode cX13_mapsOf 169 = .ok (.aload_n 0, 1) := dw_at cX13_mapsOf_k6 (p := 16) rfl (by decide +kernel)
theorem dmX13_mapsOf_170 : decode cX13_mapsOf 170 = .ok (.iload 5, 2) := dw_at cX13_mapsOf_k6 (p := 17) rfl (by decide +kernel)
theorem dmX13_mapsOf_172 : decode cX13_mapsOf 172 = .ok (.iload 7, 2) := dw_at cX13_mapsOf_k6 (p := 19) rfl (by decide +kernel)
theorem dmX13_mapsOf_174 : decode cX13_mapsOf 174 = .ok (.invokevirtual 678, 3) := dw_at cX13_mapsOf_k6 (p := 21) rfl (by decide +kernel)
theorem dmX13_mapsOf_177 : decode cX13_mapsOf 177 = .ok (.iload 4, 2) := dw_at cX13_mapsOf_k7 (p := 0) rfl (by decide +kernel)
theorem dmX13_mapsOf_179 : decode cX13_mapsOf 179 = .ok (.aload_n 0, 1) := dw_at cX13_mapsOf_k7 (p := 2) rfl (by decide +kernel)
theorem dmX13_mapsOf_180 : decode cX13_mapsOf 180 = .ok (.aload_n 1, 1) := dw_at cX13_mapsOf_k7 (p := 3) rfl (by decide +kernel)
theorem dmX13_mapsOf_181 : decode cX13_mapsOf 181 = .ok (.iload_n 2, 1) := dw_at cX13_mapsOf_k7 (p := 4) rfl (by decide +kernel)
theorem dmX13_mapsOf_182 : decode cX13_mapsOf 182 = .ok (.invokevirtual 684, 3) := dw_at cX13_mapsOf_k7 (p := 5) rfl (by decide +kernel)
theorem dmX13_mapsOf_185 : decode cX13_mapsOf 185 = .ok (.iadd, 1) := dw_at cX13_mapsOf_k7 (p := 8) rfl (by decide +kernel)
theorem dmX13_mapsOf_186 : decode cX13_mapsOf 186 = .ok (.istore 4, 2) := dw_at cX13_mapsOf_k7 (p := 9) rfl (by decide +kernel)
theorem dmX13_mapsOf_188 : decode cX13_mapsOf 188 = .ok (.aload_n 0, 1) := dw_at cX13_mapsOf_k7 (p := 11) rfl (by decide +kernel)
theorem dmX13_mapsOf_189 : decode cX13_mapsOf 189 = .ok (.iload 6, 2) := dw_at cX13_mapsOf_k7 (p := 12) rfl (by decide +kernel)
theorem dmX13_mapsOf_191 : decode cX13_mapsOf 191 = .ok (.invokevirtual 687, 3) := dw_at cX13_mapsOf_k7 (p := 14) rfl (by decide +kernel)
theorem dmX13_mapsOf_194 : decode cX13_mapsOf 194 = .ok (.iinc 7 1, 3) := dw_at cX13_mapsOf_k7 (p := 17) rfl (by decide +kernel)
theorem dmX13_mapsOf_197 : decode cX13_mapsOf 197 = .ok (.goto (-39), 3) := dw_at cX13_mapsOf_k7 (p := 20) rfl (by decide +kernel)
theorem dmX13_mapsOf_200 : decode cX13_mapsOf 200 = .ok (.aload_n 0, 1) := dw_at cX13_mapsOf_k7 (p := 23) rfl (by decide +kernel)
theorem dmX13_mapsOf_201 : decode cX13_mapsOf 201 = .ok (.iload_n 3, 1) := dw_at cX13_mapsOf_k7 (p := 24) rfl (by decide +kernel)
theorem dmX13_mapsOf_202 : decode cX13_mapsOf 202 = .ok (.invokevirtual 687, 3) := dw_at cX13_mapsOf_k7 (p := 25) rfl (by decide +kernel)
theorem dmX13_mapsOf_205 : decode cX13_mapsOf 205 = .ok (.iload 4, 2) := dw_at cX13_mapsOf_k7 (p := 28) rfl (by decide +kernel)
theorem dmX13_mapsOf_207 : decode cX13_mapsOf 207 = .ok (.ireturn, 1) := dw_at cX13_mapsOf_k7 (p := 30) rfl (by decide +kernel)
def qm_X13_mapsOf_0 (K : Nat) (self : Nat → Int32 → ow_MS → Option (Int32 × ow_MS)) (go : Nat → Int32 → Int32 → Int32 → Int32 → Int32 → Int32 → Nat → Int32 → ow_MS → Option (Int32 × ow_MS)) (x2 : Int32) (x3 : Int32) (x4 : Int32) (x5 : Int32) (x6 : Int32) (x7 : Int32) (r1 : Nat) (t0 : Int32) (z : ow_MS) : Option (Int32 × ow_MS) :=
 rdF z 79 fun v1 => cs1 (qe_X13_follows K r1 x2 z) fun v3 z2 => (if v3 = 0 then go 6 x2 v1 0 0 0 0 r1 0 z2
 else go 1 x2 v1 0 (-1) 0 0 r1 0 z2)
def qm_X13_mapsOf_1 (K : Nat) (self : Nat → Int32 → ow_MS → Option (Int32 × ow_MS)) (go : Nat → Int32 → Int32 → Int32 → Int32 → Int32 → Int32 → Nat → Int32 → ow_MS → Option (Int32 × ow_MS)) (x2 : Int32) (x3 : Int32) (x4 : Int32) (x5 : Int32) (x6 : Int32) (x7 : Int32) (r1 : Nat) (t0 : Int32) (z : ow_MS) : Option (Int32 × ow_MS) :=
 rdF z (r1 + 1) fun v4 => nzI 2 ((if (v4 / 2) ≤ x6 then go 4 x2 x3 x4 x5 x6 0 r1 0 z
 else (if x5 = (-1) then rdI mX z 80 x6 fun v5 => (if v5 = 0 then go 3 x2 x3 x4 x5 x6 0 r1 0 z
 else rdI mX z 61 x6 fun v6 => rdI mX z 77 v6 fun v7 => (if v7 = (-1) then rdI mX z 61 x6 fun v14 => go 2 x2 x3 x4 x5 x6 0 r1 v14 z
 else rdI mX z 62 x6 fun v8 => rdI mX z 77 v8 fun v9 => (if v9 = (-1) then rdI mX z 62 x6 fun v13 => go 2 x2 x3 x4 x5 x6 0 r1 v13 z
 else rdI mX z 63 x6 fun v10 => rdI mX z 77 v10 fun v11 => (if v11 = (-1) then rdI mX z 63 x6 fun v12 => go 2 x2 x3 x4 x5 x6 0 r1 v12 z
 else go 2 x2 x3 x4 x5 x6 0 r1 (-1) z))))
 else go 4 x2 x3 x4 x5 x6 0 r1 0 z)))
def qm_X13_mapsOf_2 (K : Nat) (self : Nat → Int32 → ow_MS → Option (Int32 × ow_MS)) (go : Nat → Int32 → Int32 → Int32 → Int32 → Int32 → Int32 → Nat → Int32 → ow_MS → Option (Int32 × ow_MS)) (x2 : Int32) (x3 : Int32) (x4 : Int32) (x5 : Int32) (x6 : Int32) (x7 : Int32) (r1 : Nat) (t0 : Int32) (z : ow_MS) : Option (Int32 × ow_MS) :=
 go 3 x2 x3 x4 t0 x6 0 r1 0 z
def qm_X13_mapsOf_3 (K : Nat) (self : Nat → Int32 → ow_MS → Option (Int32 × ow_MS)) (go : Nat → Int32 → Int32 → Int32 → Int32 → Int32 → Int32 → Nat → Int32 → ow_MS → Option (Int32 × ow_MS)) (x2 : Int32) (x3 : Int32) (x4 : Int32) (x5 : Int32) (x6 : Int32) (x7 : Int32) (r1 : Nat) (t0 : Int32) (z : ow_MS) : Option (Int32 × ow_MS) :=
 go 1 x2 x3 x4 x5 (x6 + 1) 0 r1 0 z
def qm_X13_mapsOf_4 (K : Nat) (self : Nat → Int32 → ow_MS → Option (Int32 × ow_MS)) (go : Nat → Int32 → Int32 → Int32 → Int32 → Int32 → Int32 → Nat → Int32 → ow_MS → Option (Int32 × ow_MS)) (x2 : Int32) (x3 : Int32) (x4 : Int32) (x5 : Int32) (x6 : Int32) (x7 : Int32) (r1 : Nat) (t0 : Int32) (z : ow_MS) : Option (Int32 × ow_MS) :=
 (if x5 = (-1) then go 6 x2 x3 1 0 0 0 r1 0 z
 else rdF z 79 fun v15 => go 5 x2 x3 x4 x5 v15 0 r1 0 z)
def qm_X13_mapsOf_5 (K : Nat) (self : Nat → Int32 → ow_MS → Option (Int32 × ow_MS)) (go : Nat → Int32 → Int32 → Int32 → Int32 → Int32 → Int32 → Nat → Int32 → ow_MS → Option (Int32 × ow_MS)) (x2 : Int32) (x3 : Int32) (x4 : Int32) (x5 : Int32) (x6 : Int32) (x7 : Int32) (r1 : Nat) (t0 : Int32) (z : ow_MS) : Option (Int32 × ow_MS) :=
 rdI mX z 73 x2 fun v16 => (if v16 ≤ x7 then go 6 x2 x3 x4 0 0 0 r1 0 z
 else cs0 (qe_X13_give K x5 x7 z) fun z17 => cs1 (self r1 x2 z17) fun v19 z18 => cs0 (qe_X13_takeBack K x6 z18) fun z20 => go 5 x2 x3 (x4 + v19) x5 x6 (x7 + 1) r1 0 z20)
def qm_X13_mapsOf_6 (K : Nat) (self : Nat → Int32 → ow_MS → Option (Int32 × ow_MS)) (go : Nat → Int32 → Int32 → Int32 → Int32 → Int32 → Int32 → Nat → Int32 → ow_MS → Option (Int32 × ow_MS)) (x2 : Int32) (x3 : Int32) (x4 : Int32) (x5 : Int32) (x6 : Int32) (x7 : Int32) (r1 : Nat) (t0 : Int32) (z : ow_MS) : Option (Int32 × ow_MS) :=
 cs0 (qe_X13_takeBack K x3 z) fun z21 => some (x4, z21)
def qb_X13_mapsOf (K : Nat) (self : Nat → Int32 → ow_MS → Option (Int32 × ow_MS)) (go : Nat → Int32 → Int32 → Int32 → Int32 → Int32 → Int32 → Nat → Int32 → ow_MS → Option (Int32 × ow_MS)) (L : Nat) (x2 : Int32) (x3 : Int32) (x4 : Int32) (x5 : Int32) (x6 : Int32) (x7 : Int32) (r1 : Nat) (t0 : Int32) (z : ow_MS) : Option (Int32 × ow_MS) := match L with
  | 0 => qm_X13_mapsOf_0 K self go x2 x3 x4 x5 x6 x7 r1 t0 z
  | 1 => qm_X13_mapsOf_1 K self go x2 x3 x4 x5 x6 x7 r1 t0 z
  | 2 => qm_X13_mapsOf_2 K self go x2 x3 x4 x5 x6 x7 r1 t0 z
  | 3 => qm_X13_mapsOf_3 K self go x2 x3 x4 x5 x6 x7 r1 t0 z
  | 4 => qm_X13_mapsOf_4 K self go x2 x3 x4 x5 x6 x7 r1 t0 z
  | 5 => qm_X13_mapsOf_5 K self go x2 x3 x4 x5 x6 x7 r1 t0 z
  | 6 => qm_X13_mapsOf_6 K self go x2 x3 x4 x5 x6 x7 r1 t0 z
  | _ => none
def q_X13_mapsOf (K : Nat) (self : Nat → Int32 → ow_MS → Option (Int32 × ow_MS)) : Nat → Nat → Int32 → Int32 → Int32 → Int32 → Int32 → Int32 → Nat → Int32 → ow_MS → Option (Int32 × ow_MS)
  | 0 => fun _ _ _ _ _ _ _ _ _ _ => none
  | k + 1 => qb_X13_mapsOf K self (q_X13_mapsOf K self k)
def qd_X13_mapsOf (K : Nat) : Nat → Nat → Int32 → ow_MS → Option (Int32 × ow_MS)
  | 0 => fun _ _ _ => none
  | d + 1 => fun r1 x2 z => q_X13_mapsOf K (qd_X13_mapsOf K d) K 0 x2 0 0 0 0 0 r1 0 z
def qe_X13_mapsOf (K : Nat) (r1 : Nat) (x2 : Int32) (z : ow_MS) : Option (Int32 × ow_MS) := qd_X13_mapsOf K 42 r1 x2 z
abbrev wm_X13_mapsOf : List Cond := .code yX13_mapsOf cX13_mapsOf 8 (some .int) :: wM
theorem cd_X13_mapsOf : yX13_mapsOf.cls = RX13 ∧ yX13_mapsOf.cls ≠ "java/lang/invoke/MethodHandle" ∧ yX13_mapsOf.cls ≠ "java/lang/invoke/VarHandle" ∧ (parseMethodDescriptor yX13_mapsOf.desc).map (fun d => d.parameters.length) = some 2 := by decide +kernel
set_option maxHeartbeats 4000000 in
set_option maxRecDepth 100000 in
theorem kd_X13_mapsOf (l : Launch) (D : va_G) (q : ow_Q5) (u : Nat → Nat) (hU : tw_inj mX u) (K : Nat) (d : Nat) : ∀ (r1 : Nat) (x2 : Int32) (hr1 : mw_net r1) (z z1 : ow_MS) (r : Int32) (_ : qd_X13_mapsOf K d r1 x2 z = some (r, z1)), Met l yX13_mapsOf wm_X13_mapsOf ({ frames := 2 + d, cells := 0, slots := 0, locals := 51 + d * 27 } : Room) (va_Pc [.ref (u 0), .ref (u r1), .int x2] (mw_pre D q u z)) (va_Qi (fun x (_ : Unit) => x = r) (fun _ t => va_P D vwCl (tw mX q u z1) t.heap) (tw_A mX u)) 0 0 (tw_A mX u) := by
  induction d with
  | zero =>
    intro r1 x2 hr1 z z1 r hq
    exact tw_no hq
  | succ d ihd =>
    intro r1 x2 hr1 z z1 r hq
    have hq : q_X13_mapsOf K (qd_X13_mapsOf K d) K 0 x2 0 0 0 0 0 r1 0 z = some (r, z1) := hq
    refine Met.ofW (cc := cX13_mapsOf) (maxL := 8) (ret := (some .int)) (by decide) rfl ?_
    intro p e s m args below meth c s₁ B hml hv
    obtain ⟨rfl, hP, hK, hN⟩ := hv
    have hx := B.exec
    have hb := B.bytes
    have hr := B.returns
    have hts := atoms_spec (ws := wm_X13_mapsOf) B.pre
    have hT : ∀ w ∈ wM, w.before ([.ref (u 0), .ref (u r1), .int x2] : List Value).toArray s = true := fun w h => hts w (List.mem_cons_of_mem _ h)
    have hown : s.vm.findClass RX13 = some m.cls := findClass_of_methodNamed B.named
    have hlocks := B.notSynchronized
    have hM : tw_M D vwCl mX q s.heap u z s.heap [] := ⟨hP, va_S.rf⟩
    have hl := lv_entry ([.ref (u 0), .ref (u r1), .int x2]) (n := 8) (Nat.le_of_ble_eq_true rfl)
    rw [lg_entry_eq]
    generalize (lg_sl ([.ref (u 0), .ref (u r1), .int x2]) ++ List.replicate (8 - (lg_sl ([.ref (u 0), .ref (u r1), .int x2])).length) Slot.unset).toArray = ls at hl ⊢
    have hl : lv_has ls 8 [(0, .ref (u 0)), (1, .ref (u r1)), (2, .int x2)] := hl
    refine ow_named (fun QQ hQQ => ?_)
    generalize ([.ref (u 0), .ref (u r1), .int x2] : List Value).toArray = args at hts hT hQQ ⊢
    have key : ∀ k : Nat, (∀ (x2 : Int32) (x3 : Int32) (x4 : Int32) (x5 : Int32) (x6 : Int32) (x7 : Int32) (r1 : Nat) (t0 : Int32) (z : ow_MS) (H : Heap) (locs : List Loc) (ls : Array Slot), mw_net r1 → tw_M D vwCl mX q s.heap u z H locs → lv_has ls 8 [(0, .ref (u 0)), (1, .ref (u r1)), (2, .int x2)] → q_X13_mapsOf K (qd_X13_mapsOf K d) k 0 x2 x3 x4 x5 x6 x7 r1 t0 z = some (r, z1) → W p l e ({ frames := 2 + (d + 1), cells := 0, slots := 0, locals := 51 + (d + 1) * 27 } : Room) s m args below meth c H locs 0 0 QQ (F0 m 0 ls [])) ∧ (∀ (x2 : Int32) (x3 : Int32) (x4 : Int32) (x5 : Int32) (x6 : Int32) (x7 : Int32) (r1 : Nat) (t0 : Int32) (z : ow_MS) (H : Heap) (locs : List Loc) (ls : Array Slot), mw_net r1 → tw_M D vwCl mX q s.heap u z H locs → lv_has ls 8 [(0, .ref (u 0)), (1, .ref (u r1)), (2, .int x2), (3, .int x3), (4, .int x4), (5, .int x5), (6, .int x6)] → q_X13_mapsOf K (qd_X13_mapsOf K d) k 1 x2 x3 x4 x5 x6 x7 r1 t0 z = some (r, z1) → W p l e ({ frames := 2 + (d + 1), cells := 0, slots := 0, locals := 51 + (d + 1) * 27 } : Room) s m args below meth c H locs 0 0 QQ (F0 m 23 ls [])) ∧ (∀ (x2 : Int32) (x3 : Int32) (x4 : Int32) (x5 : Int32) (x6 : Int32) (x7 : Int32) (r1 : Nat) (t0 : Int32) (z : ow_MS) (H : Heap) (locs : List Loc) (ls : Array Slot), mw_net r1 → tw_M D vwCl mX q s.heap u z H locs → lv_has ls 8 [(0, .ref (u 0)), (1, .ref (u r1)), (2, .int x2), (3, .int x3), (4, .int x4), (5, .int x5), (6, .int x6)] → q_X13_mapsOf K (qd_X13_mapsOf K d) k 2 x2 x3 x4 x5 x6 x7 r1 t0 z = some (r, z1) → W p l e ({ frames := 2 + (d + 1), cells := 0, slots := 0, locals := 51 + (d + 1) * 27 } : Room) s m args below meth c H locs 0 0 QQ (F0 m 129 ls [.int t0])) ∧ (∀ (x2 : Int32) (x3 : Int32) (x4 : Int32) (x5 : Int32) (x6 : Int32) (x7 : Int32) (r1 : Nat) (t0 : Int32) (z : ow_MS) (H : Heap) (locs : List Loc) (ls : Array Slot), mw_net r1 → tw_M D vwCl mX q s.heap u z H locs → lv_has ls 8 [(0, .ref (u 0)), (1, .ref (u r1)), (2, .int x2), (3, .int x3), (4, .int x4), (5, .int x5), (6, .int x6)] → q_X13_mapsOf K (qd_X13_mapsOf K d) k 3 x2 x3 x4 x5 x6 x7 r1 t0 z = some (r, z1) → W p l e ({ frames := 2 + (d + 1), cells := 0, slots := 0, locals := 51 + (d + 1) * 27 } : Room) s m args below meth c H locs 0 0 QQ (F0 m 131 ls [])) ∧ (∀ (x2 : Int32) (x3 : Int32) (x4 : Int32) (x5 : Int32) (x6 : Int32) (x7 : Int32) (r1 : Nat) (t0 : Int32) (z : ow_MS) (H : Heap) (locs : List Loc) (ls : Array Slot), mw_net r1 → tw_M D vwCl mX q s.heap u z H locs → lv_has ls 8 [(0, .ref (u 0)), (1, .ref (u r1)), (2, .int x2), (3, .int x3), (4, .int x4), (5, .int x5), (6, .int x6)] → q_X13_mapsOf K (qd_X13_mapsOf K d) k 4 x2 x3 x4 x5 x6 x7 r1 t0 z = some (r, z1) → W p l e ({ frames := 2 + (d + 1), cells := 0, slots := 0, locals := 51 + (d + 1) * 27 } : Room) s m args below meth c H locs 0 0 QQ (F0 m 137 ls [])) ∧ (∀ (x2 : Int32) (x3 : Int32) (x4 : Int32) (x5 : Int32) (x6 : Int32) (x7 : Int32) (r1 : Nat) (t0 : Int32) (z : ow_MS) (H : Heap) (locs : List Loc) (ls : Array Slot), mw_net r1 → tw_M D vwCl mX q s.heap u z H locs → lv_has ls 8 [(0, .ref (u 0)), (1, .ref (u r1)), (2, .int x2), (3, .int x3), (4, .int x4), (5, .int x5), (6, .int x6), (7, .int x7)] → q_X13_mapsOf K (qd_X13_mapsOf K d) k 5 x2 x3 x4 x5 x6 x7 r1 t0 z = some (r, z1) → W p l e ({ frames := 2 + (d + 1), cells := 0, slots := 0, locals := 51 + (d + 1) * 27 } : Room) s m args below meth c H locs 0 0 QQ (F0 m 158 ls [])) ∧ (∀ (x2 : Int32) (x3 : Int32) (x4 : Int32) (x5 : Int32) (x6 : Int32) (x7 : Int32) (r1 : Nat) (t0 : Int32) (z : ow_MS) (H : Heap) (locs : List Loc) (ls : Array Slot), mw_net r1 → tw_M D vwCl mX q s.heap u z H locs → lv_has ls 8 [(0, .ref (u 0)), (1, .ref (u r1)), (2, .int x2), (3, .int x3), (4, .int x4)] → q_X13_mapsOf K (qd_X13_mapsOf K d) k 6 x2 x3 x4 x5 x6 x7 r1 t0 z = some (r, z1) → W p l e ({ frames := 2 + (d + 1), cells := 0, slots := 0, locals := 51 + (d + 1) * 27 } : Room) s m args below meth c H locs 0 0 QQ (F0 m 200 ls [])) := by
      intro k
      induction k with
      | zero => exact ⟨fun _ _ _ _ _ _ _ _ _ _ _ _ _ _ _ hq => tw_no hq, fun _ _ _ _ _ _ _ _ _ _ _ _ _ _ _ hq => tw_no hq, fun _ _ _ _ _ _ _ _ _ _ _ _ _ _ _ hq => tw_no hq, fun _ _ _ _ _ _ _ _ _ _ _ _ _ _ _ hq => tw_no hq, fun _ _ _ _ _ _ _ _ _ _ _ _ _ _ _ hq => tw_no hq, fun _ _ _ _ _ _ _ _ _ _ _ _ _ _ _ hq => tw_no hq, fun _ _ _ _ _ _ _ _ _ _ _ _ _ _ _ hq => tw_no hq⟩
      | succ k ih =>
        obtain ⟨ih_0, ih_1, ih_2, ih_3, ih_4, ih_5, ih_6⟩ := ih
        refine ⟨?_, ?_, ?_, ?_, ?_, ?_, ?_⟩
        · intro x2 x3 x4 x5 x6 x7 r1 t0 z H locs ls hr1 hM hl hq
          have hq : qm_X13_mapsOf_0 K (qd_X13_mapsOf K d) (q_X13_mapsOf K (qd_X13_mapsOf K d) k) x2 x3 x4 x5 x6 x7 r1 t0 z = some (r, z1) := hq
          unfold qm_X13_mapsOf_0 at hq
          refine lv_aload_n hx hb dmX13_mapsOf_0 rfl (lv_at hl 0 rfl) ?_
          refine mg13_675 hx hb hT hown hK hM hq dmX13_mapsOf_1 (fun v1 hq => ?_)
          refine lv_istore_n (lv' := [(3, .int v1), (0, .ref (u 0)), (1, .ref (u r1)), (2, .int x2)]) hx hb dmX13_mapsOf_4 rfl hl (by decide) rfl (fun ls hl => ?_)
          refine lv_iconst (v := 0) hx hb dmX13_mapsOf_5 (by decide) ?_
          refine lv_istore (lv' := [(4, .int 0), (3, .int v1), (0, .ref (u 0)), (1, .ref (u r1)), (2, .int x2)]) hx hb dmX13_mapsOf_6 hl (by decide) rfl (fun ls hl => ?_)
          refine lv_aload_n hx hb dmX13_mapsOf_8 rfl (lv_at hl 2 rfl) ?_
          refine lv_aload_n hx hb dmX13_mapsOf_9 rfl (lv_at hl 3 rfl) ?_
          refine lv_iload_n hx hb dmX13_mapsOf_10 rfl (lv_at hl 4 rfl) ?_
          obtain ⟨v3, z2, hcq, hq⟩ := tw_cl1 hq
          refine tw_cali hM (va_runV (As := [.ref (u r1), .int x2]) (rest := []) ⟨hx, hb, hml, hown, hts⟩ (km_X13_follows l D q u hU K r1 x2 hr1 z z2 v3 hcq) (cwV 2 hts (tw_gV wM_good wq_420 wq_421 wq_422 wq_61 wq_418) rfl rfl rfl cd_X13_follows ⟨(show (1 + 1 : Nat) ≤ 2 + (d + 1) from by omega), (show (8 + (10 + 11) + 22 : Nat) ≤ 51 + (d + 1) * 27 from by omega)⟩) (mw_preV hK hN hM mo_0 rfl) rfl rfl hl.1 rfl (lv_room (Nat.le_of_ble_eq_true rfl)) dmX13_mapsOf_11 ⟨(Nat.le_of_ble_eq_true rfl), (Nat.le_of_ble_eq_true rfl)⟩) (fun H locs hM => ?_)
          refine lv_if_eq (tgt := 200) hx hb dmX13_mapsOf_14 (by decide) (fun hc => ?_) (fun hc => ?_)
          · have hq := tw_it hq hc
            exact ih_6 x2 v1 0 0 0 0 r1 0 z2 H locs ls hr1 hM (lv_sub hl [2, 3, 4, 1, 0] rfl) hq
          · have hq := tw_if hq hc
            refine lv_iconst (v := (-1)) hx hb dmX13_mapsOf_17 (by decide) ?_
            refine lv_istore (lv' := [(5, .int (-1)), (4, .int 0), (3, .int v1), (0, .ref (u 0)), (1, .ref (u r1)), (2, .int x2)]) hx hb dmX13_mapsOf_18 hl (by decide) rfl (fun ls hl => ?_)
            refine lv_iconst (v := 0) hx hb dmX13_mapsOf_20 (by decide) ?_
            refine lv_istore (lv' := [(6, .int 0), (5, .int (-1)), (4, .int 0), (3, .int v1), (0, .ref (u 0)), (1, .ref (u r1)), (2, .int x2)]) hx hb dmX13_mapsOf_21 hl (by decide) rfl (fun ls hl => ?_)
            exact ih_1 x2 v1 0 (-1) 0 0 r1 0 z2 H locs ls hr1 hM (lv_sub hl [4, 5, 6, 3, 2, 1, 0] rfl) hq
        · intro x2 x3 x4 x5 x6 x7 r1 t0 z H locs ls hr1 hM hl hq
          have hq : qm_X13_mapsOf_1 K (qd_X13_mapsOf K d) (q_X13_mapsOf K (qd_X13_mapsOf K d) k) x2 x3 x4 x5 x6 x7 r1 t0 z = some (r, z1) := hq
          unfold qm_X13_mapsOf_1 at hq
          refine lv_iload hx hb dmX13_mapsOf_23 (lv_at hl 6 rfl) ?_
          refine lv_aload_n hx hb dmX13_mapsOf_25 rfl (lv_at hl 1 rfl) ?_
          refine mg13_44 hx hb hT hown hK hM hN hr1 hq dmX13_mapsOf_26 (fun v4 hq => ?_)
          refine lv_iconst (v := 2) hx hb dmX13_mapsOf_29 (by decide) ?_
          obtain ⟨hz, hq⟩ := tw_nzI hq
          refine lv_idiv hx hb dmX13_mapsOf_30 hz ?_
          refine lv_icmp_ge (tgt := 137) hx hb dmX13_mapsOf_31 (by decide) (fun hc => ?_) (fun hc => ?_)
          · have hq := tw_it hq hc
            exact ih_4 x2 x3 x4 x5 x6 0 r1 0 z H locs ls hr1 hM (lv_sub hl [0, 1, 2, 3, 4, 5, 6] rfl) hq
          · have hq := tw_if hq hc
            refine lv_iload hx hb dmX13_mapsOf_34 (lv_at hl 5 rfl) ?_
            refine lv_iconst (v := (-1)) hx hb dmX13_mapsOf_36 (by decide) ?_
            refine lv_icmp_ne (tgt := 137) hx hb dmX13_mapsOf_37 (by decide) (fun hc => ?_) (fun hc => ?_)
            · have hq := tw_if hq hc
              exact ih_4 x2 x3 x4 x5 x6 0 r1 0 z H locs ls hr1 hM (lv_sub hl [0, 1, 2, 3, 4, 5, 6] rfl) hq
            · have hq := tw_it hq hc
              refine lv_aload_n hx hb dmX13_mapsOf_40 rfl (lv_at hl 0 rfl) ?_
              refine mg13_283 hx hb hT hown hK hM dmX13_mapsOf_41 ?_
              refine lv_iload hx hb dmX13_mapsOf_44 (lv_at hl 6 rfl) ?_
              refine tw_zald mX_ok hx hb hK hM mr_80 hq dmX13_mapsOf_46 (fun v5 hq => ?_)
              refine lv_if_eq (tgt := 131) hx hb dmX13_mapsOf_47 (by decide) (fun hc => ?_) (fun hc => ?_)
              · have hq := tw_it hq hc
                exact ih_3 x2 x3 x4 x5 x6 0 r1 0 z H locs ls hr1 hM (lv_sub hl [0, 1, 2, 3, 4, 5, 6] rfl) hq
              · have hq := tw_if hq hc
                refine lv_aload_n hx hb dmX13_mapsOf_50 rfl (lv_at hl 0 rfl) ?_
                refine mg13_277 hx hb hT hown hK hM dmX13_mapsOf_51 ?_
                refine lv_aload_n hx hb dmX13_mapsOf_54 rfl (lv_at hl 0 rfl) ?_
                refine mg13_238 hx hb hT hown hK hM dmX13_mapsOf_55 ?_
                refine lv_iload hx hb dmX13_mapsOf_58 (lv_at hl 6 rfl) ?_
                refine tw_iald mX_ok hx hb hK hM mr_61 hq dmX13_mapsOf_60 (fun v6 hq => ?_)
                refine tw_iald mX_ok hx hb hK hM mr_77 hq dmX13_mapsOf_61 (fun v7 hq => ?_)
                refine lv_iconst (v := (-1)) hx hb dmX13_mapsOf_62 (by decide) ?_
                refine lv_icmp_ne (tgt := 76) hx hb dmX13_mapsOf_63 (by decide) (fun hc => ?_) (fun hc => ?_)
                · have hq := tw_if hq hc
                  refine lv_aload_n hx hb dmX13_mapsOf_76 rfl (lv_at hl 0 rfl) ?_
                  refine mg13_277 hx hb hT hown hK hM dmX13_mapsOf_77 ?_
                  refine lv_aload_n hx hb dmX13_mapsOf_80 rfl (lv_at hl 0 rfl) ?_
                  refine mg13_241 hx hb hT hown hK hM dmX13_mapsOf_81 ?_
                  refine lv_iload hx hb dmX13_mapsOf_84 (lv_at hl 6 rfl) ?_
                  refine tw_iald mX_ok hx hb hK hM mr_62 hq dmX13_mapsOf_86 (fun v8 hq => ?_)
                  refine tw_iald mX_ok hx hb hK hM mr_77 hq dmX13_mapsOf_87 (fun v9 hq => ?_)
                  refine lv_iconst (v := (-1)) hx hb dmX13_mapsOf_88 (by decide) ?_
                  refine lv_icmp_ne (tgt := 102) hx hb dmX13_mapsOf_89 (by decide) (fun hc => ?_) (fun hc => ?_)
                  · have hq := tw_if hq hc
                    refine lv_aload_n hx hb dmX13_mapsOf_102 rfl (lv_at hl 0 rfl) ?_
                    refine mg13_277 hx hb hT hown hK hM dmX13_mapsOf_103 ?_
                    refine lv_aload_n hx hb dmX13_mapsOf_106 rfl (lv_at hl 0 rfl) ?_
                    refine mg13_244 hx hb hT hown hK hM dmX13_mapsOf_107 ?_
                    refine lv_iload hx hb dmX13_mapsOf_110 (lv_at hl 6 rfl) ?_
                    refine tw_iald mX_ok hx hb hK hM mr_63 hq dmX13_mapsOf_112 (fun v10 hq => ?_)
                    refine tw_iald mX_ok hx hb hK hM mr_77 hq dmX13_mapsOf_113 (fun v11 hq => ?_)
                    refine lv_iconst (v := (-1)) hx hb dmX13_mapsOf_114 (by decide) ?_
                    refine lv_icmp_ne (tgt := 128) hx hb dmX13_mapsOf_115 (by decide) (fun hc => ?_) (fun hc => ?_)
                    · have hq := tw_if hq hc
                      refine lv_iconst (v := (-1)) hx hb dmX13_mapsOf_128 (by decide) ?_
                      exact ih_2 x2 x3 x4 x5 x6 0 r1 (-1) z H locs ls hr1 hM (lv_sub hl [0, 1, 2, 3, 4, 5, 6] rfl) hq
                    · have hq := tw_it hq hc
                      refine lv_aload_n hx hb dmX13_mapsOf_118 rfl (lv_at hl 0 rfl) ?_
                      refine mg13_244 hx hb hT hown hK hM dmX13_mapsOf_119 ?_
                      refine lv_iload hx hb dmX13_mapsOf_122 (lv_at hl 6 rfl) ?_
                      refine tw_iald mX_ok hx hb hK hM mr_63 hq dmX13_mapsOf_124 (fun v12 hq => ?_)
                      refine lv_goto (tgt := 129) hx hb dmX13_mapsOf_125 (by decide) ?_
                      exact ih_2 x2 x3 x4 x5 x6 0 r1 v12 z H locs ls hr1 hM (lv_sub hl [0, 1, 2, 3, 4, 5, 6] rfl) hq
                  · have hq := tw_it hq hc
                    refine lv_aload_n hx hb dmX13_mapsOf_92 rfl (lv_at hl 0 rfl) ?_
                    refine mg13_241 hx hb hT hown hK hM dmX13_mapsOf_93 ?_
                    refine lv_iload hx hb dmX13_mapsOf_96 (lv_at hl 6 rfl) ?_
                    refine tw_iald mX_ok hx hb hK hM mr_62 hq dmX13_mapsOf_98 (fun v13 hq => ?_)
                    refine lv_goto (tgt := 129) hx hb dmX13_mapsOf_99 (by decide) ?_
                    exact ih_2 x2 x3 x4 x5 x6 0 r1 v13 z H locs ls hr1 hM (lv_sub hl [0, 1, 2, 3, 4, 5, 6] rfl) hq
                · have hq := tw_it hq hc
                  refine lv_aload_n hx hb dmX13_mapsOf_66 rfl (lv_at hl 0 rfl) ?_
                  refine mg13_238 hx hb hT hown hK hM dmX13_mapsOf_67 ?_
                  refine lv_iload hx hb dmX13_mapsOf_70 (lv_at hl 6 rfl) ?_
                  refine tw_iald mX_ok hx hb hK hM mr_61 hq dmX13_mapsOf_72 (fun v14 hq => ?_)
                  refine lv_goto (tgt := 129) hx hb dmX13_mapsOf_73 (by decide) ?_
                  exact ih_2 x2 x3 x4 x5 x6 0 r1 v14 z H locs ls hr1 hM (lv_sub hl [0, 1, 2, 3, 4, 5, 6] rfl) hq
        · intro x2 x3 x4 x5 x6 x7 r1 t0 z H locs ls hr1 hM hl hq
          have hq : qm_X13_mapsOf_2 K (qd_X13_mapsOf K d) (q_X13_mapsOf K (qd_X13_mapsOf K d) k) x2 x3 x4 x5 x6 x7 r1 t0 z = some (r, z1) := hq
          unfold qm_X13_mapsOf_2 at hq
          refine lv_istore (lv' := [(5, .int t0), (0, .ref (u 0)), (1, .ref (u r1)), (2, .int x2), (3, .int x3), (4, .int x4), (6, .int x6)]) hx hb dmX13_mapsOf_129 hl (by decide) rfl (fun ls hl => ?_)
          exact ih_3 x2 x3 x4 t0 x6 0 r1 0 z H locs ls hr1 hM (lv_sub hl [1, 2, 3, 4, 5, 0, 6] rfl) hq
        · intro x2 x3 x4 x5 x6 x7 r1 t0 z H locs ls hr1 hM hl hq
          have hq : qm_X13_mapsOf_3 K (qd_X13_mapsOf K d) (q_X13_mapsOf K (qd_X13_mapsOf K d) k) x2 x3 x4 x5 x6 x7 r1 t0 z = some (r, z1) := hq
          unfold qm_X13_mapsOf_3 at hq
          refine lv_iinc (v := (x6 + 1)) (lv' := [(6, .int (x6 + 1)), (0, .ref (u 0)), (1, .ref (u r1)), (2, .int x2), (3, .int x3), (4, .int x4), (5, .int x5)]) hx hb dmX13_mapsOf_131 hl (k := 6) rfl rfl (by decide) rfl (fun ls hl => ?_)
          refine lv_goto (tgt := 23) hx hb dmX13_mapsOf_134 (by decide) ?_
          exact ih_1 x2 x3 x4 x5 (x6 + 1) 0 r1 0 z H locs ls hr1 hM (lv_sub hl [1, 2, 3, 4, 5, 6, 0] rfl) hq
        · intro x2 x3 x4 x5 x6 x7 r1 t0 z H locs ls hr1 hM hl hq
          have hq : qm_X13_mapsOf_4 K (qd_X13_mapsOf K d) (q_X13_mapsOf K (qd_X13_mapsOf K d) k) x2 x3 x4 x5 x6 x7 r1 t0 z = some (r, z1) := hq
          unfold qm_X13_mapsOf_4 at hq
          refine lv_iload hx hb dmX13_mapsOf_137 (lv_at hl 5 rfl) ?_
          refine lv_iconst (v := (-1)) hx hb dmX13_mapsOf_139 (by decide) ?_
          refine lv_icmp_ne (tgt := 149) hx hb dmX13_mapsOf_140 (by decide) (fun hc => ?_) (fun hc => ?_)
          · have hq := tw_if hq hc
            refine lv_aload_n hx hb dmX13_mapsOf_149 rfl (lv_at hl 0 rfl) ?_
            refine mg13_675 hx hb hT hown hK hM hq dmX13_mapsOf_150 (fun v15 hq => ?_)
            refine lv_istore (lv' := [(6, .int v15), (0, .ref (u 0)), (1, .ref (u r1)), (2, .int x2), (3, .int x3), (4, .int x4), (5, .int x5)]) hx hb dmX13_mapsOf_153 hl (by decide) rfl (fun ls hl => ?_)
            refine lv_iconst (v := 0) hx hb dmX13_mapsOf_155 (by decide) ?_
            refine lv_istore (lv' := [(7, .int 0), (6, .int v15), (0, .ref (u 0)), (1, .ref (u r1)), (2, .int x2), (3, .int x3), (4, .int x4), (5, .int x5)]) hx hb dmX13_mapsOf_156 hl (by decide) rfl (fun ls hl => ?_)
            exact ih_5 x2 x3 x4 x5 v15 0 r1 0 z H locs ls hr1 hM (lv_sub hl [2, 3, 4, 5, 6, 7, 1, 0] rfl) hq
          · have hq := tw_it hq hc
            refine lv_iconst (v := 1) hx hb dmX13_mapsOf_143 (by decide) ?_
            refine lv_istore (lv' := [(4, .int 1), (0, .ref (u 0)), (1, .ref (u r1)), (2, .int x2), (3, .int x3), (5, .int x5), (6, .int x6)]) hx hb dmX13_mapsOf_144 hl (by decide) rfl (fun ls hl => ?_)
            refine lv_goto (tgt := 200) hx hb dmX13_mapsOf_146 (by decide) ?_
            exact ih_6 x2 x3 1 0 0 0 r1 0 z H locs ls hr1 hM (lv_sub hl [1, 2, 3, 4, 0] rfl) hq
        · intro x2 x3 x4 x5 x6 x7 r1 t0 z H locs ls hr1 hM hl hq
          have hq : qm_X13_mapsOf_5 K (qd_X13_mapsOf K d) (q_X13_mapsOf K (qd_X13_mapsOf K d) k) x2 x3 x4 x5 x6 x7 r1 t0 z = some (r, z1) := hq
          unfold qm_X13_mapsOf_5 at hq
          refine lv_iload hx hb dmX13_mapsOf_158 (lv_at hl 7 rfl) ?_
          refine lv_aload_n hx hb dmX13_mapsOf_160 rfl (lv_at hl 0 rfl) ?_
          refine mg13_265 hx hb hT hown hK hM dmX13_mapsOf_161 ?_
          refine lv_iload_n hx hb dmX13_mapsOf_164 rfl (lv_at hl 2 rfl) ?_
          refine tw_iald mX_ok hx hb hK hM mr_73 hq dmX13_mapsOf_165 (fun v16 hq => ?_)
          refine lv_icmp_ge (tgt := 200) hx hb dmX13_mapsOf_166 (by decide) (fun hc => ?_) (fun hc => ?_)
          · have hq := tw_it hq hc
            exact ih_6 x2 x3 x4 0 0 0 r1 0 z H locs ls hr1 hM (lv_sub hl [0, 1, 2, 3, 4] rfl) hq
          · have hq := tw_if hq hc
            refine lv_aload_n hx hb dmX13_mapsOf_169 rfl (lv_at hl 0 rfl) ?_
            refine lv_iload hx hb dmX13_mapsOf_170 (lv_at hl 5 rfl) ?_
            refine lv_iload hx hb dmX13_mapsOf_172 (lv_at hl 7 rfl) ?_
            obtain ⟨z17, hcq, hq⟩ := tw_cl0 hq
            refine tw_calv hM (va_runV (As := [.int x5, .int x7]) (rest := []) ⟨hx, hb, hml, hown, hts⟩ (km_X13_give l D q u hU K x5 x7 z z17 hcq) (cwV 2 hts (tw_gV wM_good wq_415 wq_416 wq_417 wq_61 wq_411) rfl rfl rfl cd_X13_give ⟨(show (0 + 1 : Nat) ≤ 2 + (d + 1) from by omega), (show (8 + (3 + 11) + 0 : Nat) ≤ 51 + (d + 1) * 27 from by omega)⟩) (mw_preV hK hN hM mo_0 rfl) rfl rfl hl.1 rfl (lv_room (Nat.le_of_ble_eq_true rfl)) dmX13_mapsOf_174 ⟨(Nat.le_of_ble_eq_true rfl), (Nat.le_of_ble_eq_true rfl)⟩) (fun H locs hM => ?_)
            refine lv_iload hx hb dmX13_mapsOf_177 (lv_at hl 4 rfl) ?_
            refine lv_aload_n hx hb dmX13_mapsOf_179 rfl (lv_at hl 0 rfl) ?_
            refine lv_aload_n hx hb dmX13_mapsOf_180 rfl (lv_at hl 1 rfl) ?_
            refine lv_iload_n hx hb dmX13_mapsOf_181 rfl (lv_at hl 2 rfl) ?_
            obtain ⟨v19, z18, hcq, hq⟩ := tw_cl1 hq
            refine tw_cali hM (va_runV (As := [.ref (u r1), .int x2]) (rest := [.int x4]) ⟨hx, hb, hml, hown, hts⟩ (ihd r1 x2 hr1 z17 z18 v19 hcq) (cwV 2 hts (tw_gV wM_good wq_423 wq_424 wq_425 wq_61 wq_430) rfl rfl rfl cd_X13_mapsOf ⟨(show (2 + d + 1 : Nat) ≤ 2 + (d + 1) from by omega), (show (8 + (8 + 11) + (51 + d * 27) : Nat) ≤ 51 + (d + 1) * 27 from by omega)⟩) (mw_preV hK hN hM mo_0 rfl) rfl rfl hl.1 rfl (lv_room (Nat.le_of_ble_eq_true rfl)) dmX13_mapsOf_182 ⟨(Nat.le_of_ble_eq_true rfl), (Nat.le_of_ble_eq_true rfl)⟩) (fun H locs hM => ?_)
            refine lv_iadd hx hb dmX13_mapsOf_185 ?_
            refine lv_istore (lv' := [(4, .int (x4 + v19)), (0, .ref (u 0)), (1, .ref (u r1)), (2, .int x2), (3, .int x3), (5, .int x5), (6, .int x6), (7, .int x7)]) hx hb dmX13_mapsOf_186 hl (by decide) rfl (fun ls hl => ?_)
            refine lv_aload_n hx hb dmX13_mapsOf_188 rfl (lv_at hl 1 rfl) ?_
            refine lv_iload hx hb dmX13_mapsOf_189 (lv_at hl 6 rfl) ?_
            obtain ⟨z20, hcq, hq⟩ := tw_cl0 hq
            refine tw_calv hM (va_runV (As := [.int x6]) (rest := []) ⟨hx, hb, hml, hown, hts⟩ (km_X13_takeBack l D q u hU K x6 z18 z20 hcq) (cwV 1 hts (tw_gV wM_good wq_426 wq_427 wq_428 wq_61 wq_429) rfl rfl rfl cd_X13_takeBack ⟨(show (0 + 1 : Nat) ≤ 2 + (d + 1) from by omega), (show (8 + (2 + 11) + 0 : Nat) ≤ 51 + (d + 1) * 27 from by omega)⟩) (mw_preV hK hN hM mo_0 rfl) rfl rfl hl.1 rfl (lv_room (Nat.le_of_ble_eq_true rfl)) dmX13_mapsOf_191 ⟨(Nat.le_of_ble_eq_true rfl), (Nat.le_of_ble_eq_true rfl)⟩) (fun H locs hM => ?_)
            refine lv_iinc (v := (x7 + 1)) (lv' := [(7, .int (x7 + 1)), (4, .int (x4 + v19)), (0, .ref (u 0)), (1, .ref (u r1)), (2, .int x2), (3, .int x3), (5, .int x5), (6, .int x6)]) hx hb dmX13_mapsOf_194 hl (k := 7) rfl rfl (by decide) rfl (fun ls hl => ?_)
            refine lv_goto (tgt := 158) hx hb dmX13_mapsOf_197 (by decide) ?_
            exact ih_5 x2 x3 (x4 + v19) x5 x6 (x7 + 1) r1 0 z20 H locs ls hr1 hM (lv_sub hl [2, 3, 4, 5, 1, 6, 7, 0] rfl) hq
        · intro x2 x3 x4 x5 x6 x7 r1 t0 z H locs ls hr1 hM hl hq
          have hq : qm_X13_mapsOf_6 K (qd_X13_mapsOf K d) (q_X13_mapsOf K (qd_X13_mapsOf K d) k) x2 x3 x4 x5 x6 x7 r1 t0 z = some (r, z1) := hq
          unfold qm_X13_mapsOf_6 at hq
          refine lv_aload_n hx hb dmX13_mapsOf_200 rfl (lv_at hl 0 rfl) ?_
          refine lv_iload_n hx hb dmX13_mapsOf_201 rfl (lv_at hl 3 rfl) ?_
          obtain ⟨z21, hcq, hq⟩ := tw_cl0 hq
          refine tw_calv hM (va_runV (As := [.int x3]) (rest := []) ⟨hx, hb, hml, hown, hts⟩ (km_X13_takeBack l D q u hU K x3 z z21 hcq) (cwV 1 hts (tw_gV wM_good wq_426 wq_427 wq_428 wq_61 wq_429) rfl rfl rfl cd_X13_takeBack ⟨(show (0 + 1 : Nat) ≤ 2 + (d + 1) from by omega), (show (8 + (2 + 11) + 0 : Nat) ≤ 51 + (d + 1) * 27 from by omega)⟩) (mw_preV hK hN hM mo_0 rfl) rfl rfl hl.1 rfl (lv_room (Nat.le_of_ble_eq_true rfl)) dmX13_mapsOf_202 ⟨(Nat.le_of_ble_eq_true rfl), (Nat.le_of_ble_eq_true rfl)⟩) (fun H locs hM => ?_)
          refine lv_iload hx hb dmX13_mapsOf_205 (lv_at hl 4 rfl) ?_
          exact mw_iret hx hb hr hlocks hM hq hQQ dmX13_mapsOf_207
    exact (key K).1 x2 0 0 0 0 0 r1 0 z s.heap [] ls hr1 hM (lv_sub hl [0, 1, 2] rfl) hq
theorem km_X13_mapsOf (l : Launch) (D : va_G) (q : ow_Q5) (u : Nat → Nat) (hU : tw_inj mX u) (K : Nat) (r1 : Nat) (x2 : Int32) (hr1 : mw_net r1) (z z1 : ow_MS) (r : Int32) (hq : qe_X13_mapsOf K r1 x2 z = some (r, z1)) : Met l yX13_mapsOf wm_X13_mapsOf ({ frames := 44, cells := 0, slots := 0, locals := 1185 } : Room) (va_Pc [.ref (u 0), .ref (u r1), .int x2] (mw_pre D q u z)) (va_Qi (fun x (_ : Unit) => x = r) (fun _ t => va_P D vwCl (tw mX q u z1) t.heap) (tw_A mX u)) 0 0 (tw_A mX u) := kd_X13_mapsOf l D q u hU K 42 r1 x2 hr1 z z1 r hq
theorem dmX13_maps_0 : decode cX13_maps 0 = .ok (.aload_n 0, 1) := dw_at cX13_maps_k0 (p := 0) rfl (by decide +kernel)
theorem dmX13_maps_1 : decode cX13_maps 1 = .ok (.iconst 0, 1) := dw_at cX13_maps_k0 (p := 1) rfl (by decide +kernel)
theorem dmX13_maps_2 : decode cX13_maps 2 = .ok (.putfield 1, 3) := dw_at cX13_maps_k0 (p := 2) rfl (by decide +kernel)
theorem dmX13_maps_5 : decode cX13_maps 5 = .ok (.aload_n 0, 1) := dw_at cX13_maps_k0 (p := 5) rfl (by decide +kernel)
theorem dmX13_maps_6 : decode cX13_maps 6 = .ok (.iload_n 1, 1) := dw_at cX13_maps_k0 (p := 6) rfl (by decide +kernel)
theorem dmX13_maps_7 : decode cX13_maps 7 = .ok (.invokevirtual 423, 3) := dw_at cX13_maps_k0 (p := 7) rfl (by decide +kernel)
theorem dmX13_maps_10 : decode cX13_maps 10 = .ok (.ifCond .ne 9, 3) := dw_at cX13_maps_k0 (p := 10) rfl (by decide +kernel)
theorem dmX13_maps_13 : decode cX13_maps 13 = .ok (.aload_n 0, 1) := dw_at cX13_maps_k0 (p := 13) rfl (by decide +kernel)
theorem dmX13_maps_14 : decode cX13_maps 14 = .ok (.iconst 1, 1) := dw_at cX13_maps_k0 (p := 14) rfl (by decide +kernel)
theorem dmX13_maps_15 : decode cX13_maps 15 = .ok (.invokevirtual 403, 3) := dw_at cX13_maps_k0 (p := 15) rfl (by decide +kernel)
theorem dmX13_maps_18 : decode cX13_maps 18 = .ok (.ireturn, 1) := dw_at cX13_maps_k0 (p := 18) rfl (by decide +kernel)
theorem dmX13_maps_19 : decode cX13_maps 19 = .ok (.iload_n 2, 1) := dw_at cX13_maps_k0 (p := 19) rfl (by decide +kernel)
theorem dmX13_maps_20 : decode cX13_maps 20 = .ok (.iconst 1, 1) := dw_at cX13_maps_k0 (p := 20) rfl (by decide +kernel)
theorem dmX13_maps_21 : decode cX13_maps 21 = .ok (.if_icmp .lt 8, 3) := dw_at cX13_maps_k0 (p := 21) rfl (by decide +kernel)
theorem dmX13_maps_24 : decode cX13_maps 24 = .ok (.iload_n 2, 1) := dw_at cX13_maps_k1 (p := 0) rfl (by decide +kernel)
theorem dmX13_maps_25 : decode cX13_maps 25 = .ok (.iconst 4, 1) := dw_at cX13_maps_k1 (p := 1) rfl (by decide +kernel)
theorem dmX13_maps_26 : decode cX13_maps 26 = .ok (.if_icmp .le 9, 3) := dw_at cX13_maps_k1 (p := 2) rfl (by decide +kernel)
theorem dmX13_maps_29 : decode cX13_maps 29 = .ok (.aload_n 0, 1) := dw_at cX13_maps_k1 (p := 5) rfl (by decide +kernel)
theorem dmX13_maps_30 : decode cX13_maps 30 = .ok (.iconst 2, 1) := dw_at cX13_maps_k1 (p := 6) rfl (by decide +kernel)
theorem dmX13_maps_31 : decode cX13_maps 31 = .ok (.invokevirtual 403, 3) := dw_at cX13_maps_k1 (p := 7) rfl (by decide +kernel)
theorem dmX13_maps_34 : decode cX13_maps 34 = .ok (.ireturn, 1) := dw_at cX13_maps_k1 (p := 10) rfl (by decide +kernel)
theorem dmX13_maps_35 : decode cX13_maps 35 = .ok (.aload_n 0, 1) := dw_at cX13_maps_k1 (p := 11) rfl (by decide +kernel)
theorem dmX13_maps_36 : decode cX13_maps 36 = .ok (.iload_n 1, 1) := dw_at cX13_maps_k1 (p := 12) rfl (by decide +kernel)
theorem dmX13_maps_37 : decode cX13_maps 37 = .ok (.aload_n 0, 1) := dw_at cX13_maps_k1 (p := 13) rfl (by decide +kernel)
theorem dmX13_maps_38 : decode cX13_maps 38 = .ok (.getfield 114, 3) := dw_at cX13_maps_k1 (p := 14) rfl (by decide +kernel)
theorem dmX13_maps_41 : decode cX13_maps 41 = .ok (.invokevirtual 434, 3) := dw_at cX13_maps_k1 (p := 17) rfl (by decide +kernel)
theorem dmX13_maps_44 : decode cX13_maps 44 = .ok (.aload_n 0, 1) := dw_at cX13_maps_k1 (p := 20) rfl (by decide +kernel)
theorem dmX13_maps_45 : decode cX13_maps 45 = .ok (.getfield 114, 3) := dw_at cX13_maps_k1 (p := 21) rfl (by decide +kernel)
theorem dmX13_maps_48 : decode cX13_maps 48 = .ok (.getfield 44, 3) := dw_at cX13_maps_k2 (p := 0) rfl (by decide +kernel)
theorem dmX13_maps_51 : decode cX13_maps 51 = .ok (.bipush 14, 2) := dw_at cX13_maps_k2 (p := 3) rfl (by decide +kernel)
theorem dmX13_maps_53 : decode cX13_maps 53 = .ok (.if_icmp .gt 14, 3) := dw_at cX13_maps_k2 (p := 5) rfl (by decide +kernel)
theorem dmX13_maps_56 : decode cX13_maps 56 = .ok (.aload_n 0, 1) := dw_at cX13_maps_k2 (p := 8) rfl (by decide +kernel)
theorem dmX13_maps_57 : decode cX13_maps 57 = .ok (.getfield 114, 3) := dw_at cX13_maps_k2 (p := 9) rfl (by decide +kernel)
theorem dmX13_maps_60 : decode cX13_maps 60 = .ok (.getfield 407, 3) := dw_at cX13_maps_k2 (p := 12) rfl (by decide +kernel)
theorem dmX13_maps_63 : decode cX13_maps 63 = .ok (.iconst 4, 1) := dw_at cX13_maps_k2 (p := 15) rfl (by decide +kernel)
theorem dmX13_maps_64 : decode cX13_maps 64 = .ok (.if_icmp .le 9, 3) := dw_at cX13_maps_k2 (p := 16) rfl (by decide +kernel)
theorem dmX13_maps_67 : decode cX13_maps 67 = .ok (.aload_n 0, 1) := dw_at cX13_maps_k2 (p := 19) rfl (by decide +kernel)
theorem dmX13_maps_68 : decode cX13_maps 68 = .ok (.iconst 3, 1) := dw_at cX13_maps_k2 (p := 20) rfl (by decide +kernel)
theorem dmX13_maps_69 : decode cX13_maps 69 = .ok (.invokevirtual 403, 3) := dw_at cX13_maps_k2 (p := 21) rfl (by decide +kernel)
theorem dmX13_maps_72 : decode cX13_maps 72 = .ok (.ireturn, 1) := dw_at cX13_maps_k3 (p := 0) rfl (by decide +kernel)
theorem dmX13_maps_73 : decode cX13_maps 73 = .ok (.aload_n 0, 1) := dw_at cX13_maps_k3 (p := 1) rfl (by decide +kernel)
theorem dmX13_maps_74 : decode cX13_maps 74 = .ok (.getfield 114, 3) := dw_at cX13_maps_k3 (p := 2) rfl (by decide +kernel)
theorem dmX13_maps_77 : decode cX13_maps 77 = .ok (.invokevirtual 75, 3) := dw_at cX13_maps_k3 (p := 5) rfl (by decide +kernel)
theorem dmX13_maps_80 : decode cX13_maps 80 = .ok (.aload_n 0, 1) := dw_at cX13_maps_k3 (p := 8) rfl (by decide +kernel)
theorem dmX13_maps_81 : decode cX13_maps 81 = .ok (.aload_n 0, 1) := dw_at cX13_maps_k3 (p := 9) rfl (by decide +kernel)
theorem dmX13_maps_82 : decode cX13_maps 82 = .ok (.getfield 114, 3) := dw_at cX13_maps_k3 (p := 10) rfl (by decide +kernel)
theorem dmX13_maps_85 : decode cX13_maps 85 = .ok (.invokevirtual 629, 3) := dw_at cX13_maps_k3 (p := 13) rfl (by decide +kernel)
theorem dmX13_maps_88 : decode cX13_maps 88 = .ok (.iconst 1, 1) := dw_at cX13_maps_k3 (p := 16) rfl (by decide +kernel)
theorem dmX13_maps_89 : decode cX13_maps 89 = .ok (.istore_n 3, 1) := dw_at cX13_maps_k3 (p := 17) rfl (by decide +kernel)
theorem dmX13_maps_90 : decode cX13_maps 90 = .ok (.iconst 0, 1) := dw_at cX13_maps_k3 (p := 18) rfl (by decide +kernel)
theorem dmX13_maps_91 : decode cX13_maps 91 = .ok (.istore 4, 2) := dw_at cX13_maps_k3 (p := 19) rfl (by decide +kernel)
theorem dmX13_maps_93 : decode cX13_maps 93 = .ok (.iload 4, 2) := dw_at cX13_maps_k3 (p := 21) rfl (by decide +kernel)
theorem dmX13_maps_95 : decode cX13_maps 95 = .ok (.aload_n 0, 1) := dw_at cX13_maps_k3 (p := 23) rfl (by decide +kernel)
theorem dmX13_maps_96 : decode cX13_maps 96 = .ok (.getfield 114, 3) := dw_at cX13_maps_k4 (p := 0) rfl (by decide +kernel)
theorem dmX13_maps_99 : decode cX13_maps 99 = .ok (.getfield 78, 3) := dw_at cX13_maps_k4 (p := 3) rfl (by decide +kernel)
theorem dmX13_maps_102 : decode cX13_maps 102 = .ok (.if_icmp .ge 142, 3) := dw_at cX13_maps_k4 (p := 6) rfl (by decide +kernel)
theorem dmX13_maps_105 : decode cX13_maps 105 = .ok (.iconst 0, 1) := dw_at cX13_maps_k4 (p := 9) rfl (by decide +kernel)
theorem dmX13_maps_106 : decode cX13_maps 106 = .ok (.istore 5, 2) := dw_at cX13_maps_k4 (p := 10) rfl (by decide +kernel)
theorem dmX13_maps_108 : decode cX13_maps 108 = .ok (.iconst 0, 1) := dw_at cX13_maps_k4 (p := 12) rfl (by decide +kernel)
theorem dmX13_maps_109 : decode cX13_maps 109 = .ok (.istore 6, 2) := dw_at cX13_maps_k4 (p := 13) rfl (by decide +kernel)
theorem dmX13_maps_111 : decode cX13_maps 111 = .ok (.iload 6, 2) := dw_at cX13_maps_k4 (p := 15) rfl (by decide +kernel)
theorem dmX13_maps_113 : decode cX13_maps 113 = .ok (.bipush 40, 2) := dw_at cX13_maps_k4 (p := 17) rfl (by decide +kernel)
theorem dmX13_maps_115 : decode cX13_maps 115 = .ok (.if_icmp .ge 17, 3) := dw_at cX13_maps_k4 (p := 19) rfl (by decide +kernel)
theorem dmX13_maps_118 : decode cX13_maps 118 = .ok (.aload_n 0, 1) := dw_at cX13_maps_k4 (p := 22) rfl (by decide +kernel)
theorem dmX13_maps_119 : decode cX13_maps 119 = .ok (.getfield 277, 3) := dw_at cX13_maps_k4 (p := 23) rfl (by decide +kernel)
theorem dmX13_maps_122 : decode cX13_maps 122 = .ok (.iload 6, 2) := dw_at cX13_maps_k5 (p := 0) rfl (by decide +kernel)
theorem dmX13_maps_124 : decode cX13_maps 124 = .ok (.iconst (-1), 1) := dw_at cX13_maps_k5 (p := 2) rfl (by decide +kernel)
theorem dmX13_maps_125 : decode cX13_maps 125 = .ok (.iastore, 1) := dw_at cX13_maps_k5 (p := 3) rfl (by decide +kernel)
theorem dmX13_maps_126 : decode cX13_maps 126 = .ok (.iinc 6 1, 3) := dw_at cX13_maps_k5 (p := 4) rfl (by decide +kernel)
theorem dmX13_maps_129 : decode cX13_maps 129 = .ok (.goto (-18), 3) := dw_at cX13_maps_k5 (p := 7) rfl (by decide +kernel)
theorem dmX13_maps_132 : decode cX13_maps 132 = .ok (.iconst 0, 1) := dw_at cX13_maps_k5 (p := 10) rfl (by decide +kernel)
theorem dmX13_maps_133 : decode cX13_maps 133 = .ok (.istore 6, 2) := dw_at cX13_maps_k5 (p := 11) rfl (by decide +kernel)
theorem dmX13_maps_135 : decode cX13_maps 135 = .ok (.iload 6, 2) := dw_at cX13_maps_k5 (p := 13) rfl (by decide +kernel)
theorem dmX13_maps_137 : decode cX13_maps 137 = .ok (.aload_n 0, 1) := dw_at cX13_maps_k5 (p := 15) rfl (by decide +kernel)
theorem dmX13_maps_138 : decode cX13_maps 138 = .ok (.getfield 114, 3) := dw_at cX13_maps_k5 (p := 16) rfl (by decide +kernel)
theorem dmX13_maps_141 : decode cX13_maps 141 = .ok (.getfield 44, 3) := dw_at cX13_maps_k5 (p := 19) rfl (by decide +kernel)
theorem dmX13_maps_144 : decode cX13_maps 144 = .ok (.if_icmp .ge 63, 3) := dw_at cX13_maps_k5 (p := 22) rfl (by decide +kernel)
theorem dmX13_maps_147 : decode cX13_maps 147 = .ok (.aload_n 0, 1) := dw_at cX13_maps_k6 (p := 0) rfl (by decide +kernel)
theorem dmX13_maps_148 : decode cX13_maps 148 = .ok (.getfield 114, 3) := dw_at cX13_maps_k6 (p := 1) rfl (by decide +kernel)
theorem dmX13_maps_151 : decode cX13_maps 151 = .ok (.getfield 47, 3) := dw_at cX13_maps_k6 (p := 4) rfl (by decide +kernel)
theorem dmX13_maps_154 : decode cX13_maps 154 = .ok (.aload_n 0, 1) := dw_at cX13_maps_k6 (p := 7) rfl (by decide +kernel)
theorem dmX13_maps_155 : decode cX13_maps 155 = .ok (.getfield 114, 3) := dw_at cX13_maps_k6 (p := 8) rfl (by decide +kernel)
theorem dmX13_maps_158 : decode cX13_maps 158 = .ok (.getfield 18, 3) := dw_at cX13_maps_k6 (p := 11) rfl (by decide +kernel)
theorem dmX13_maps_161 : decode cX13_maps 161 = .ok (.iload 6, 2) := dw_at cX13_maps_k6 (p := 14) rfl (by decide +kernel)
theorem dmX13_maps_163 : decode cX13_maps 163 = .ok (.iaload, 1) := dw_at cX13_maps_k6 (p := 16) rfl (by decide +kernel)
theorem dmX13_maps_164 : decode cX13_maps 164 = .ok (.iaload, 1) := dw_at cX13_maps_k6 (p := 17) rfl (by decide +kernel)
theorem dmX13_maps_165 : decode cX13_maps 165 = .ok (.iload 4, 2) := dw_at cX13_maps_k6 (p := 18) rfl (by decide +kernel)
theorem dmX13_maps_167 : decode cX13_maps 167 = .ok (.if_icmp .ne 7, 3) := dw_at cX13_maps_k6 (p := 20) rfl (by decide +kernel)
theorem dmX13_maps_170 : decode cX13_maps 170 = .ok (.iconst 1, 1) := dw_at cX13_maps_k6 (p := 23) rfl (by decide +kernel)
theorem dmX13_maps_171 : decode cX13_maps 171 = .ok (.goto 4, 3) := dw_at cX13_maps_k7 (p := 0) rfl (by decide +kernel)
theorem dmX13_maps_174 : decode cX13_maps 174 = .ok (.iconst 0, 1) := dw_at cX13_maps_k7 (p := 3) rfl (by decide +kernel)
theorem dmX13_maps_175 : decode cX13_maps 175 = .ok (.istore 7, 2) := dw_at cX13_maps_k7 (p := 4) rfl (by decide +kernel)
theorem dmX13_maps_177 : decode cX13_maps 177 = .ok (.aload_n 0, 1) := dw_at cX13_maps_k7 (p := 6) rfl (by decide +kernel)
theorem dmX13_maps_178 : decode cX13_maps 178 = .ok (.getfield 283, 3) := dw_at cX13_maps_k7 (p := 7) rfl (by decide +kernel)
theorem dmX13_maps_181 : decode cX13_maps 181 = .ok (.aload_n 0, 1) := dw_at cX13_maps_k7 (p := 10) rfl (by decide +kernel)
theorem dmX13_maps_182 : decode cX13_maps 182 = .ok (.getfield 114, 3) := dw_at cX13_maps_k7 (p := 11) rfl (by decide +kernel)
theorem dmX13_maps_185 : decode cX13_maps 185 = .ok (.getfield 23, 3) := dw_at cX13_maps_k7 (p := 14) rfl (by decide +kernel)
theorem dmX13_maps_188 : decode cX13_maps 188 = .ok (.iload 6, 2) := dw_at cX13_maps_k7 (p := 17) rfl (by decide +kernel)
theorem dmX13_maps_190 : decode cX13_maps 190 = .ok (.iaload, 1) := dw_at cX13_maps_k7 (p := 19) rfl (by decide +kernel)
theorem dmX13_maps_191 : decode cX13_maps 191 = .ok (.iload 7, 2) := dw_at cX13_maps_k7 (p := 20) rfl (by decide +kernel)
theorem dmX13_maps_193 : decode cX13_maps 193 = .ok (.bastore, 1) := dw_at cX13_maps_k7 (p := 22) rfl (by decide +kernel)
theorem dmX13_maps_194 : decode cX13_maps 194 = .ok (.iload 5, 2) := dw_at cX13_maps_k7 (p := 23) rfl (by decide +kernel)
theorem dmX13_maps_196 : decode cX13_maps 196 = .ok (.iload 7, 2) := dw_at cX13_maps_k8 (p := 0) rfl (by decide +kernel)
theorem dmX13_maps_198 : decode cX13_maps 198 = .ok (.ior, 1) := dw_at cX13_maps_k8 (p := 2) rfl (by decide +kernel)
theorem dmX13_maps_199 : decode cX13_maps 199 = .ok (.istore 5, 2) := dw_at cX13_maps_k8 (p := 3) rfl (by decide +kernel)
theorem dmX13_maps_201 : decode cX13_maps 201 = .ok (.iinc 6 1, 3) := dw_at cX13_maps_k8 (p := 5) rfl (by decide +kernel)
theorem dmX13_maps_204 : decode cX13_maps 204 = .ok (.goto (-69), 3) := dw_at cX13_maps_k8 (p := 8) rfl (by decide +kernel)
theorem dmX13_maps_207 : decode cX13_maps 207 = .ok (.aload_n 0, 1) := dw_at cX13_maps_k8 (p := 11) rfl (by decide +kernel)
theorem dmX13_maps_208 : decode cX13_maps 208 = .ok (.iconst 0, 1) := dw_at cX13_maps_k8 (p := 12) rfl (by decide +kernel)
theorem dmX13_maps_209 : decode cX13_maps 209 = .ok (.putfield 675, 3) := dw_at cX13_maps_k8 (p := 13) rfl (by decide +kernel)
theorem dmX13_maps_212 : decode cX13_maps 212 = .ok (.iload_n 3, 1) := dw_at cX13_maps_k8 (p := 16) rfl (by decide +kernel)
theorem dmX13_maps_213 : decode cX13_maps 213 = .ok (.iload 5, 2) := dw_at cX13_maps_k8 (p := 17) rfl (by decide +kernel)
theorem dmX13_maps_215 : decode cX13_maps 215 = .ok (.ifCond .eq 15, 3) := dw_at cX13_maps_k8 (p := 19) rfl (by decide +kernel)
theorem dmX13_maps_218 : decode cX13_maps 218 = .ok (.aload_n 0, 1) := dw_at cX13_maps_k8 (p := 22) rfl (by decide +kernel)
theorem dmX13_maps_219 : decode cX13_maps 219 = .ok (.aload_n 0, 1) := dw_at cX13_maps_k8 (p := 23) rfl (by decide +kernel)
theorem dmX13_maps_220 : decode cX13_maps 220 = .ok (.getfield 114, 3) := dw_at cX13_maps_k9 (p := 0) rfl (by decide +kernel)
theorem dmX13_maps_223 : decode cX13_maps 223 = .ok (.iload_n 2, 1) := dw_at cX13_maps_k9 (p := 3) rfl (by decide +kernel)
theorem dmX13_maps_224 : decode cX13_maps 224 = .ok (.invokevirtual 684, 3) := dw_at cX13_maps_k9 (p := 4) rfl (by decide +kernel)
theorem dmX13_maps_227 : decode cX13_maps 227 = .ok (.goto 9, 3) := dw_at cX13_maps_k9 (p := 7) rfl (by decide +kernel)
theorem dmX13_maps_230 : decode cX13_maps 230 = .ok (.aload_n 0, 1) := dw_at cX13_maps_k9 (p := 10) rfl (by decide +kernel)
theorem dmX13_maps_231 : decode cX13_maps 231 = .ok (.getfield 265, 3) := dw_at cX13_maps_k9 (p := 11) rfl (by decide +kernel)
theorem dmX13_maps_234 : decode cX13_maps 234 = .ok (.iload_n 2, 1) := dw_at cX13_maps_k9 (p := 14) rfl (by decide +kernel)
theorem dmX13_maps_235 : decode cX13_maps 235 = .ok (.iaload, 1) := dw_at cX13_maps_k9 (p := 15) rfl (by decide +kernel)
theorem dmX13_maps_236 : decode cX13_maps 236 = .ok (.imul, 1) := dw_at cX13_maps_k9 (p := 16) rfl (by decide +kernel)
theorem dmX13_maps_237 : decode cX13_maps 237 = .ok (.istore_n 3, 1) := dw_at cX13_maps_k9 (p := 17) rfl (by decide +kernel)
theorem dmX13_maps_238 : decode cX13_maps 238 = .ok (.iinc 4 1, 3) := dw_at cX13_maps_k9 (p := 18) rfl (by decide +kernel)
theorem dmX13_maps_241 : decode cX13_maps 241 = .ok (.goto (-148), 3) := dw_at cX13_maps_k9 (p := 21) rfl (by decide +kernel)
theorem dmX13_maps_244 : decode cX13_maps 244 = .ok (.iload_n 3, 1) := dw_at cX13_maps_k9 (p := 24) rfl (by decide +kernel)
theorem dmX13_maps_245 : decode cX13_maps 245 = .ok (.ireturn, 1) := dw_at cX13_maps_k9 (p := 25) rfl (by decide +kernel)
def qm_X13_maps_0 (K : Nat) (go : Nat → Int32 → Int32 → Int32 → Int32 → Int32 → Int32 → Int32 → Int32 → ow_MS → Option (Int32 × ow_MS)) (x1 : Int32) (x2 : Int32) (x3 : Int32) (x4 : Int32) (x5 : Int32) (x6 : Int32) (t0 : Int32) (t1 : Int32) (z : ow_MS) : Option (Int32 × ow_MS) :=
 wrF z 1 0 fun z1 => cs1 (qe_X13_has K x1 z1) fun v3 z2 => (if v3 = 0 then cs1 (qe_X13_fails K 1 z2) fun v10 z9 => some (v10, z9)
 else (if x2 < 1 then go 1 x1 x2 0 0 0 0 0 0 z2
 else (if x2 ≤ 4 then cs0 (qe_X13_open K x1 1000 z2) fun z4 => rdF z4 (1000 + 1) fun v5 => (if 14 < v5 then go 2 x1 x2 0 0 0 0 0 0 z4
 else rdF z4 (1000 + 2) fun v6 => (if v6 ≤ 4 then cs0 (qe_X12_split K 1000 z4) fun z7 => cs0 (qe_X13_makeArcs K 1000 z7) fun z8 => go 3 x1 x2 1 0 0 0 0 0 z8
 else go 2 x1 x2 0 0 0 0 0 0 z4))
 else go 1 x1 x2 0 0 0 0 0 0 z2)))
def qm_X13_maps_1 (K : Nat) (go : Nat → Int32 → Int32 → Int32 → Int32 → Int32 → Int32 → Int32 → Int32 → ow_MS → Option (Int32 × ow_MS)) (x1 : Int32) (x2 : Int32) (x3 : Int32) (x4 : Int32) (x5 : Int32) (x6 : Int32) (t0 : Int32) (t1 : Int32) (z : ow_MS) : Option (Int32 × ow_MS) :=
 cs1 (qe_X13_fails K 2 z) fun v12 z11 => some (v12, z11)
def qm_X13_maps_2 (K : Nat) (go : Nat → Int32 → Int32 → Int32 → Int32 → Int32 → Int32 → Int32 → Int32 → ow_MS → Option (Int32 × ow_MS)) (x1 : Int32) (x2 : Int32) (x3 : Int32) (x4 : Int32) (x5 : Int32) (x6 : Int32) (t0 : Int32) (t1 : Int32) (z : ow_MS) : Option (Int32 × ow_MS) :=
 cs1 (qe_X13_fails K 3 z) fun v14 z13 => some (v14, z13)
def qm_X13_maps_3 (K : Nat) (go : Nat → Int32 → Int32 → Int32 → Int32 → Int32 → Int32 → Int32 → Int32 → ow_MS → Option (Int32 × ow_MS)) (x1 : Int32) (x2 : Int32) (x3 : Int32) (x4 : Int32) (x5 : Int32) (x6 : Int32) (t0 : Int32) (t1 : Int32) (z : ow_MS) : Option (Int32 × ow_MS) :=
 rdF z (1000 + 13) fun v15 => (if v15 ≤ x4 then some (x3, z)
 else go 4 x1 x2 x3 x4 0 0 0 0 z)
def qm_X13_maps_4 (K : Nat) (go : Nat → Int32 → Int32 → Int32 → Int32 → Int32 → Int32 → Int32 → Int32 → ow_MS → Option (Int32 × ow_MS)) (x1 : Int32) (x2 : Int32) (x3 : Int32) (x4 : Int32) (x5 : Int32) (x6 : Int32) (t0 : Int32) (t1 : Int32) (z : ow_MS) : Option (Int32 × ow_MS) :=
 (if 40 ≤ x6 then go 5 x1 x2 x3 x4 x5 0 0 0 z
 else wrI mX z 77 x6 (-1) fun z16 => go 4 x1 x2 x3 x4 x5 (x6 + 1) 0 0 z16)
def qm_X13_maps_5 (K : Nat) (go : Nat → Int32 → Int32 → Int32 → Int32 → Int32 → Int32 → Int32 → Int32 → ow_MS → Option (Int32 × ow_MS)) (x1 : Int32) (x2 : Int32) (x3 : Int32) (x4 : Int32) (x5 : Int32) (x6 : Int32) (t0 : Int32) (t1 : Int32) (z : ow_MS) : Option (Int32 × ow_MS) :=
 rdF z (1000 + 1) fun v17 => (if v17 ≤ x6 then wrF z 79 0 fun z18 => (if x5 = 0 then rdI mX z18 73 x2 fun v19 => go 7 x1 x2 x3 x4 x5 x6 v19 x3 z18
 else cs1 (qe_X13_mapsOf K 1000 x2 z18) fun v21 z20 => go 7 x1 x2 x3 x4 x5 x6 v21 x3 z20)
 else rdI mX z (1000 + 8) x6 fun v22 => rdI mX z (1000 + 12) v22 fun v23 => (if v23 = x4 then go 6 x1 x2 x3 x4 x5 x6 1 0 z
 else go 6 x1 x2 x3 x4 x5 x6 0 0 z))
def qm_X13_maps_6 (K : Nat) (go : Nat → Int32 → Int32 → Int32 → Int32 → Int32 → Int32 → Int32 → Int32 → ow_MS → Option (Int32 × ow_MS)) (x1 : Int32) (x2 : Int32) (x3 : Int32) (x4 : Int32) (x5 : Int32) (x6 : Int32) (t0 : Int32) (t1 : Int32) (z : ow_MS) : Option (Int32 × ow_MS) :=
 rdI mX z (1000 + 4) x6 fun v24 => wrZ mX z 80 v24 t0 fun z25 => go 5 x1 x2 x3 x4 (x5 ||| t0) (x6 + 1) 0 0 z25
def qm_X13_maps_7 (K : Nat) (go : Nat → Int32 → Int32 → Int32 → Int32 → Int32 → Int32 → Int32 → Int32 → ow_MS → Option (Int32 × ow_MS)) (x1 : Int32) (x2 : Int32) (x3 : Int32) (x4 : Int32) (x5 : Int32) (x6 : Int32) (t0 : Int32) (t1 : Int32) (z : ow_MS) : Option (Int32 × ow_MS) :=
 go 3 x1 x2 (t1 * t0) (x4 + 1) 0 0 0 0 z
def qb_X13_maps (K : Nat) (go : Nat → Int32 → Int32 → Int32 → Int32 → Int32 → Int32 → Int32 → Int32 → ow_MS → Option (Int32 × ow_MS)) (L : Nat) (x1 : Int32) (x2 : Int32) (x3 : Int32) (x4 : Int32) (x5 : Int32) (x6 : Int32) (t0 : Int32) (t1 : Int32) (z : ow_MS) : Option (Int32 × ow_MS) := match L with
  | 0 => qm_X13_maps_0 K go x1 x2 x3 x4 x5 x6 t0 t1 z
  | 1 => qm_X13_maps_1 K go x1 x2 x3 x4 x5 x6 t0 t1 z
  | 2 => qm_X13_maps_2 K go x1 x2 x3 x4 x5 x6 t0 t1 z
  | 3 => qm_X13_maps_3 K go x1 x2 x3 x4 x5 x6 t0 t1 z
  | 4 => qm_X13_maps_4 K go x1 x2 x3 x4 x5 x6 t0 t1 z
  | 5 => qm_X13_maps_5 K go x1 x2 x3 x4 x5 x6 t0 t1 z
  | 6 => qm_X13_maps_6 K go x1 x2 x3 x4 x5 x6 t0 t1 z
  | 7 => qm_X13_maps_7 K go x1 x2 x3 x4 x5 x6 t0 t1 z
  | _ => none
def q_X13_maps (K : Nat) : Nat → Nat → Int32 → Int32 → Int32 → Int32 → Int32 → Int32 → Int32 → Int32 → ow_MS → Option (Int32 × ow_MS)
  | 0 => fun _ _ _ _ _ _ _ _ _ _ => none
  | k + 1 => qb_X13_maps K (q_X13_maps K k)
def qe_X13_maps (K : Nat) (x1 : Int32) (x2 : Int32) (z : ow_MS) : Option (Int32 × ow_MS) := q_X13_maps K K 0 x1 x2 0 0 0 0 0 0 z
abbrev wm_X13_maps : List Cond := .code yX13_maps cX13_maps 8 (some .int) :: wM
theorem cd_X13_maps : yX13_maps.cls = RX13 ∧ yX13_maps.cls ≠ "java/lang/invoke/MethodHandle" ∧ yX13_maps.cls ≠ "java/lang/invoke/VarHandle" ∧ (parseMethodDescriptor yX13_maps.desc).map (fun d => d.parameters.length) = some 2 := by decide +kernel
set_option maxHeartbeats 4000000 in
set_option maxRecDepth 100000 in
theorem km_X13_maps (l : Launch) (D : va_G) (q : ow_Q5) (u : Nat → Nat) (hU : tw_inj mX u) (K : Nat) (x1 : Int32) (x2 : Int32)  (z z1 : ow_MS) (r : Int32) (hq : qe_X13_maps K x1 x2 z = some (r, z1)) : Met l yX13_maps wm_X13_maps ({ frames := 45, cells := 0, slots := 0, locals := 1212 } : Room) (va_Pc [.ref (u 0), .int x1, .int x2] (mw_pre D q u z)) (va_Qi (fun x (_ : Unit) => x = r) (fun _ t => va_P D vwCl (tw mX q u z1) t.heap) (tw_A mX u)) 0 0 (tw_A mX u) := by
  refine Met.ofW (cc := cX13_maps) (maxL := 8) (ret := (some .int)) (by decide) rfl ?_
  intro p e s m args below meth c s₁ B hml hv
  obtain ⟨rfl, hP, hK, hN⟩ := hv
  have hx := B.exec
  have hb := B.bytes
  have hr := B.returns
  have hts := atoms_spec (ws := wm_X13_maps) B.pre
  have hT : ∀ w ∈ wM, w.before ([.ref (u 0), .int x1, .int x2] : List Value).toArray s = true := fun w h => hts w (List.mem_cons_of_mem _ h)
  have hown : s.vm.findClass RX13 = some m.cls := findClass_of_methodNamed B.named
  have hlocks := B.notSynchronized
  have hM : tw_M D vwCl mX q s.heap u z s.heap [] := ⟨hP, va_S.rf⟩
  have hl := lv_entry ([.ref (u 0), .int x1, .int x2]) (n := 8) (Nat.le_of_ble_eq_true rfl)
  rw [lg_entry_eq]
  generalize (lg_sl ([.ref (u 0), .int x1, .int x2]) ++ List.replicate (8 - (lg_sl ([.ref (u 0), .int x1, .int x2])).length) Slot.unset).toArray = ls at hl ⊢
  have hl : lv_has ls 8 [(0, .ref (u 0)), (1, .int x1), (2, .int x2)] := hl
  refine ow_named (fun QQ hQQ => ?_)
  generalize ([.ref (u 0), .int x1, .int x2] : List Value).toArray = args at hts hT hQQ ⊢
  have key : ∀ k : Nat, (∀ (x1 : Int32) (x2 : Int32) (x3 : Int32) (x4 : Int32) (x5 : Int32) (x6 : Int32) (t0 : Int32) (t1 : Int32) (z : ow_MS) (H : Heap) (locs : List Loc) (ls : Array Slot), tw_M D vwCl mX q s.heap u z H locs → lv_has ls 8 [(0, .ref (u 0)), (1, .int x1), (2, .int x2)] → q_X13_maps K k 0 x1 x2 x3 x4 x5 x6 t0 t1 z = some (r, z1) → W p l e ({ frames := 45, cells := 0, slots := 0, locals := 1212 } : Room) s m args below meth c H locs 0 0 QQ (F0 m 0 ls [])) ∧ (∀ (x1 : Int32) (x2 : Int32) (x3 : Int32) (x4 : Int32) (x5 : Int32) (x6 : Int32) (t0 : Int32) (t1 : Int32) (z : ow_MS) (H : Heap) (locs : List Loc) (ls : Array Slot), tw_M D vwCl mX q s.heap u z H locs → lv_has ls 8 [(0, .ref (u 0)), (1, .int x1), (2, .int x2)] → q_X13_maps K k 1 x1 x2 x3 x4 x5 x6 t0 t1 z = some (r, z1) → W p l e ({ frames := 45, cells := 0, slots := 0, locals := 1212 } : Room) s m args below meth c H locs 0 0 QQ (F0 m 29 ls [])) ∧ (∀ (x1 : Int32) (x2 : Int32) (x3 : Int32) (x4 : Int32) (x5 : Int32) (x6 : Int32) (t0 : Int32) (t1 : Int32) (z : ow_MS) (H : Heap) (locs : List Loc) (ls : Array Slot), tw_M D vwCl mX q s.heap u z H locs → lv_has ls 8 [(0, .ref (u 0)), (1, .int x1), (2, .int x2)] → q_X13_maps K k 2 x1 x2 x3 x4 x5 x6 t0 t1 z = some (r, z1) → W p l e ({ frames := 45, cells := 0, slots := 0, locals := 1212 } : Room) s m args below meth c H locs 0 0 QQ (F0 m 67 ls [])) ∧ (∀ (x1 : Int32) (x2 : Int32) (x3 : Int32) (x4 : Int32) (x5 : Int32) (x6 : Int32) (t0 : Int32) (t1 : Int32) (z : ow_MS) (H : Heap) (locs : List Loc) (ls : Array Slot), tw_M D vwCl mX q s.heap u z H locs → lv_has ls 8 [(0, .ref (u 0)), (1, .int x1), (2, .int x2), (3, .int x3), (4, .int x4)] → q_X13_maps K k 3 x1 x2 x3 x4 x5 x6 t0 t1 z = some (r, z1) → W p l e ({ frames := 45, cells := 0, slots := 0, locals := 1212 } : Room) s m args below meth c H locs 0 0 QQ (F0 m 93 ls [])) ∧ (∀ (x1 : Int32) (x2 : Int32) (x3 : Int32) (x4 : Int32) (x5 : Int32) (x6 : Int32) (t0 : Int32) (t1 : Int32) (z : ow_MS) (H : Heap) (locs : List Loc) (ls : Array Slot), tw_M D vwCl mX q s.heap u z H locs → lv_has ls 8 [(0, .ref (u 0)), (1, .int x1), (2, .int x2), (3, .int x3), (4, .int x4), (5, .int x5), (6, .int x6)] → q_X13_maps K k 4 x1 x2 x3 x4 x5 x6 t0 t1 z = some (r, z1) → W p l e ({ frames := 45, cells := 0, slots := 0, locals := 1212 } : Room) s m args below meth c H locs 0 0 QQ (F0 m 111 ls [])) ∧ (∀ (x1 : Int32) (x2 : Int32) (x3 : Int32) (x4 : Int32) (x5 : Int32) (x6 : Int32) (t0 : Int32) (t1 : Int32) (z : ow_MS) (H : Heap) (locs : List Loc) (ls : Array Slot), tw_M D vwCl mX q s.heap u z H locs → lv_has ls 8 [(0, .ref (u 0)), (1, .int x1), (2, .int x2), (3, .int x3), (4, .int x4), (5, .int x5), (6, .int x6)] → q_X13_maps K k 5 x1 x2 x3 x4 x5 x6 t0 t1 z = some (r, z1) → W p l e ({ frames := 45, cells := 0, slots := 0, locals := 1212 } : Room) s m args below meth c H locs 0 0 QQ (F0 m 135 ls [])) ∧ (∀ (x1 : Int32) (x2 : Int32) (x3 : Int32) (x4 : Int32) (x5 : Int32) (x6 : Int32) (t0 : Int32) (t1 : Int32) (z : ow_MS) (H : Heap) (locs : List Loc) (ls : Array Slot), tw_M D vwCl mX q s.heap u z H locs → lv_has ls 8 [(0, .ref (u 0)), (1, .int x1), (2, .int x2), (3, .int x3), (4, .int x4), (5, .int x5), (6, .int x6)] → q_X13_maps K k 6 x1 x2 x3 x4 x5 x6 t0 t1 z = some (r, z1) → W p l e ({ frames := 45, cells := 0, slots := 0, locals := 1212 } : Room) s m args below meth c H locs 0 0 QQ (F0 m 175 ls [.int t0])) ∧ (∀ (x1 : Int32) (x2 : Int32) (x3 : Int32) (x4 : Int32) (x5 : Int32) (x6 : Int32) (t0 : Int32) (t1 : Int32) (z : ow_MS) (H : Heap) (locs : List Loc) (ls : Array Slot), tw_M D vwCl mX q s.heap u z H locs → lv_has ls 8 [(0, .ref (u 0)), (1, .int x1), (2, .int x2), (3, .int x3), (4, .int x4), (5, .int x5), (6, .int x6)] → q_X13_maps K k 7 x1 x2 x3 x4 x5 x6 t0 t1 z = some (r, z1) → W p l e ({ frames := 45, cells := 0, slots := 0, locals := 1212 } : Room) s m args below meth c H locs 0 0 QQ (F0 m 236 ls [.int t0, .int t1])) := by
    intro k
    induction k with
    | zero => exact ⟨fun _ _ _ _ _ _ _ _ _ _ _ _  _ _ hq => tw_no hq, fun _ _ _ _ _ _ _ _ _ _ _ _  _ _ hq => tw_no hq, fun _ _ _ _ _ _ _ _ _ _ _ _  _ _ hq => tw_no hq, fun _ _ _ _ _ _ _ _ _ _ _ _  _ _ hq => tw_no hq, fun _ _ _ _ _ _ _ _ _ _ _ _  _ _ hq => tw_no hq, fun _ _ _ _ _ _ _ _ _ _ _ _  _ _ hq => tw_no hq, fun _ _ _ _ _ _ _ _ _ _ _ _  _ _ hq => tw_no hq, fun _ _ _ _ _ _ _ _ _ _ _ _  _ _ hq => tw_no hq⟩
    | succ k ih =>
      obtain ⟨ih_0, ih_1, ih_2, ih_3, ih_4, ih_5, ih_6, ih_7⟩ := ih
      refine ⟨?_, ?_, ?_, ?_, ?_, ?_, ?_, ?_⟩
      · intro x1 x2 x3 x4 x5 x6 t0 t1 z H locs ls  hM hl hq
        have hq : qm_X13_maps_0 K (q_X13_maps K k) x1 x2 x3 x4 x5 x6 t0 t1 z = some (r, z1) := hq
        unfold qm_X13_maps_0 at hq
        refine lv_aload_n hx hb dmX13_maps_0 rfl (lv_at hl 0 rfl) ?_
        refine lv_iconst (v := 0) hx hb dmX13_maps_1 (by decide) ?_
        refine mp13_1 hx hb hT hown hK hM hU hq dmX13_maps_2 (fun z1 H locs hM hq => ?_)
        refine lv_aload_n hx hb dmX13_maps_5 rfl (lv_at hl 0 rfl) ?_
        refine lv_iload_n hx hb dmX13_maps_6 rfl (lv_at hl 1 rfl) ?_
        obtain ⟨v3, z2, hcq, hq⟩ := tw_cl1 hq
        refine tw_cali hM (va_runV (As := [.int x1]) (rest := []) ⟨hx, hb, hml, hown, hts⟩ (km_X13_has l D q u hU K x1 z1 z2 v3 hcq) (cwV 1 hts (tw_gV wM_good wq_127 wq_128 wq_129 wq_61 wq_90) rfl rfl rfl cd_X13_has ⟨(Nat.le_of_ble_eq_true rfl), (Nat.le_of_ble_eq_true rfl)⟩) (mw_preV hK hN hM mo_0 rfl) rfl rfl hl.1 rfl (lv_room (Nat.le_of_ble_eq_true rfl)) dmX13_maps_7 ⟨(Nat.le_of_ble_eq_true rfl), (Nat.le_of_ble_eq_true rfl)⟩) (fun H locs hM => ?_)
        refine lv_if_ne (tgt := 19) hx hb dmX13_maps_10 (by decide) (fun hc => ?_) (fun hc => ?_)
        · have hq := tw_if hq hc
          refine lv_iload_n hx hb dmX13_maps_19 rfl (lv_at hl 2 rfl) ?_
          refine lv_iconst (v := 1) hx hb dmX13_maps_20 (by decide) ?_
          refine lv_icmp_lt (tgt := 29) hx hb dmX13_maps_21 (by decide) (fun hc => ?_) (fun hc => ?_)
          · have hq := tw_it hq hc
            exact ih_1 x1 x2 0 0 0 0 0 0 z2 H locs ls hM (lv_sub hl [0, 1, 2] rfl) hq
          · have hq := tw_if hq hc
            refine lv_iload_n hx hb dmX13_maps_24 rfl (lv_at hl 2 rfl) ?_
            refine lv_iconst (v := 4) hx hb dmX13_maps_25 (by decide) ?_
            refine lv_icmp_le (tgt := 35) hx hb dmX13_maps_26 (by decide) (fun hc => ?_) (fun hc => ?_)
            · have hq := tw_it hq hc
              refine lv_aload_n hx hb dmX13_maps_35 rfl (lv_at hl 0 rfl) ?_
              refine lv_iload_n hx hb dmX13_maps_36 rfl (lv_at hl 1 rfl) ?_
              refine lv_aload_n hx hb dmX13_maps_37 rfl (lv_at hl 0 rfl) ?_
              refine mg13_114 hx hb hT hown hK hM dmX13_maps_38 ?_
              obtain ⟨z4, hcq, hq⟩ := tw_cl0 hq
              refine tw_calv hM (va_runV (As := [.int x1, .ref (u 1000)]) (rest := []) ⟨hx, hb, hml, hown, hts⟩ (km_X13_open l D q u hU K x1 1000 mw_n1 z2 z4 hcq) (cwV 2 hts (tw_gV wM_good wq_138 wq_139 wq_140 wq_61 wq_136) rfl rfl rfl cd_X13_open ⟨(Nat.le_of_ble_eq_true rfl), (Nat.le_of_ble_eq_true rfl)⟩) (mw_preV hK hN hM mo_0 rfl) rfl rfl hl.1 rfl (lv_room (Nat.le_of_ble_eq_true rfl)) dmX13_maps_41 ⟨(Nat.le_of_ble_eq_true rfl), (Nat.le_of_ble_eq_true rfl)⟩) (fun H locs hM => ?_)
              refine lv_aload_n hx hb dmX13_maps_44 rfl (lv_at hl 0 rfl) ?_
              refine mg13_114 hx hb hT hown hK hM dmX13_maps_45 ?_
              refine mg13_44 hx hb hT hown hK hM hN mw_n1 hq dmX13_maps_48 (fun v5 hq => ?_)
              refine lv_bipush (v := 14) hx hb dmX13_maps_51 (by decide) ?_
              refine lv_icmp_gt (tgt := 67) hx hb dmX13_maps_53 (by decide) (fun hc => ?_) (fun hc => ?_)
              · have hq := tw_it hq hc
                exact ih_2 x1 x2 0 0 0 0 0 0 z4 H locs ls hM (lv_sub hl [0, 1, 2] rfl) hq
              · have hq := tw_if hq hc
                refine lv_aload_n hx hb dmX13_maps_56 rfl (lv_at hl 0 rfl) ?_
                refine mg13_114 hx hb hT hown hK hM dmX13_maps_57 ?_
                refine mg13_407 hx hb hT hown hK hM hN mw_n1 hq dmX13_maps_60 (fun v6 hq => ?_)
                refine lv_iconst (v := 4) hx hb dmX13_maps_63 (by decide) ?_
                refine lv_icmp_le (tgt := 73) hx hb dmX13_maps_64 (by decide) (fun hc => ?_) (fun hc => ?_)
                · have hq := tw_it hq hc
                  refine lv_aload_n hx hb dmX13_maps_73 rfl (lv_at hl 0 rfl) ?_
                  refine mg13_114 hx hb hT hown hK hM dmX13_maps_74 ?_
                  obtain ⟨z7, hcq, hq⟩ := tw_cl0 hq
                  refine tw_calv hM (va_runV (As := []) (rest := []) ⟨hx, hb, hml, hown, hts⟩ (km_X12_split l D q u hU K 1000 mw_n1 z4 z7 hcq) (cwV 0 hts (tw_gV wM_good wq_80 wq_39 wq_40 wq_13 wq_33) rfl rfl rfl cd_X12_split ⟨(Nat.le_of_ble_eq_true rfl), (Nat.le_of_ble_eq_true rfl)⟩) (mw_preV hK hN hM (mo_n mw_n1) rfl) rfl rfl hl.1 rfl (lv_room (Nat.le_of_ble_eq_true rfl)) dmX13_maps_77 ⟨(Nat.le_of_ble_eq_true rfl), (Nat.le_of_ble_eq_true rfl)⟩) (fun H locs hM => ?_)
                  refine lv_aload_n hx hb dmX13_maps_80 rfl (lv_at hl 0 rfl) ?_
                  refine lv_aload_n hx hb dmX13_maps_81 rfl (lv_at hl 0 rfl) ?_
                  refine mg13_114 hx hb hT hown hK hM dmX13_maps_82 ?_
                  obtain ⟨z8, hcq, hq⟩ := tw_cl0 hq
                  refine tw_calv hM (va_runV (As := [.ref (u 1000)]) (rest := []) ⟨hx, hb, hml, hown, hts⟩ (km_X13_makeArcs l D q u hU K 1000 mw_n1 z7 z8 hcq) (cwV 1 hts (tw_gV wM_good wq_365 wq_366 wq_367 wq_61 wq_360) rfl rfl rfl cd_X13_makeArcs ⟨(Nat.le_of_ble_eq_true rfl), (Nat.le_of_ble_eq_true rfl)⟩) (mw_preV hK hN hM mo_0 rfl) rfl rfl hl.1 rfl (lv_room (Nat.le_of_ble_eq_true rfl)) dmX13_maps_85 ⟨(Nat.le_of_ble_eq_true rfl), (Nat.le_of_ble_eq_true rfl)⟩) (fun H locs hM => ?_)
                  refine lv_iconst (v := 1) hx hb dmX13_maps_88 (by decide) ?_
                  refine lv_istore_n (lv' := [(3, .int 1), (0, .ref (u 0)), (1, .int x1), (2, .int x2)]) hx hb dmX13_maps_89 rfl hl (by decide) rfl (fun ls hl => ?_)
                  refine lv_iconst (v := 0) hx hb dmX13_maps_90 (by decide) ?_
                  refine lv_istore (lv' := [(4, .int 0), (3, .int 1), (0, .ref (u 0)), (1, .int x1), (2, .int x2)]) hx hb dmX13_maps_91 hl (by decide) rfl (fun ls hl => ?_)
                  exact ih_3 x1 x2 1 0 0 0 0 0 z8 H locs ls hM (lv_sub hl [2, 3, 4, 1, 0] rfl) hq
                · have hq := tw_if hq hc
                  exact ih_2 x1 x2 0 0 0 0 0 0 z4 H locs ls hM (lv_sub hl [0, 1, 2] rfl) hq
            · have hq := tw_if hq hc
              exact ih_1 x1 x2 0 0 0 0 0 0 z2 H locs ls hM (lv_sub hl [0, 1, 2] rfl) hq
        · have hq := tw_it hq hc
          refine lv_aload_n hx hb dmX13_maps_13 rfl (lv_at hl 0 rfl) ?_
          refine lv_iconst (v := 1) hx hb dmX13_maps_14 (by decide) ?_
          obtain ⟨v10, z9, hcq, hq⟩ := tw_cl1 hq
          refine tw_cali hM (va_runV (As := [.int 1]) (rest := []) ⟨hx, hb, hml, hown, hts⟩ (km_X13_fails l D q u hU K 1 z2 z9 v10 hcq) (cwV 1 hts (tw_gV wM_good wq_103 wq_104 wq_105 wq_61 wq_50) rfl rfl rfl cd_X13_fails ⟨(Nat.le_of_ble_eq_true rfl), (Nat.le_of_ble_eq_true rfl)⟩) (mw_preV hK hN hM mo_0 rfl) rfl rfl hl.1 rfl (lv_room (Nat.le_of_ble_eq_true rfl)) dmX13_maps_15 ⟨(Nat.le_of_ble_eq_true rfl), (Nat.le_of_ble_eq_true rfl)⟩) (fun H locs hM => ?_)
          exact mw_iret hx hb hr hlocks hM hq hQQ dmX13_maps_18
      · intro x1 x2 x3 x4 x5 x6 t0 t1 z H locs ls  hM hl hq
        have hq : qm_X13_maps_1 K (q_X13_maps K k) x1 x2 x3 x4 x5 x6 t0 t1 z = some (r, z1) := hq
        unfold qm_X13_maps_1 at hq
        refine lv_aload_n hx hb dmX13_maps_29 rfl (lv_at hl 0 rfl) ?_
        refine lv_iconst (v := 2) hx hb dmX13_maps_30 (by decide) ?_
        obtain ⟨v12, z11, hcq, hq⟩ := tw_cl1 hq
        refine tw_cali hM (va_runV (As := [.int 2]) (rest := []) ⟨hx, hb, hml, hown, hts⟩ (km_X13_fails l D q u hU K 2 z z11 v12 hcq) (cwV 1 hts (tw_gV wM_good wq_103 wq_104 wq_105 wq_61 wq_50) rfl rfl rfl cd_X13_fails ⟨(Nat.le_of_ble_eq_true rfl), (Nat.le_of_ble_eq_true rfl)⟩) (mw_preV hK hN hM mo_0 rfl) rfl rfl hl.1 rfl (lv_room (Nat.le_of_ble_eq_true rfl)) dmX13_maps_31 ⟨(Nat.le_of_ble_eq_true rfl), (Nat.le_of_ble_eq_true rfl)⟩) (fun H locs hM => ?_)
        exact mw_iret hx hb hr hlocks hM hq hQQ dmX13_maps_34
      · intro x1 x2 x3 x4 x5 x6 t0 t1 z H locs ls  hM hl hq
        have hq : qm_X13_maps_2 K (q_X13_maps K k) x1 x2 x3 x4 x5 x6 t0 t1 z = some (r, z1) := hq
        unfold qm_X13_maps_2 at hq
        refine lv_aload_n hx hb dmX13_maps_67 rfl (lv_at hl 0 rfl) ?_
        refine lv_iconst (v := 3) hx hb dmX13_maps_68 (by decide) ?_
        obtain ⟨v14, z13, hcq, hq⟩ := tw_cl1 hq
        refine tw_cali hM (va_runV (As := [.int 3]) (rest := []) ⟨hx, hb, hml, hown, hts⟩ (km_X13_fails l D q u hU K 3 z z13 v14 hcq) (cwV 1 hts (tw_gV wM_good wq_103 wq_104 wq_105 wq_61 wq_50) rfl rfl rfl cd_X13_fails ⟨(Nat.le_of_ble_eq_true rfl), (Nat.le_of_ble_eq_true rfl)⟩) (mw_preV hK hN hM mo_0 rfl) rfl rfl hl.1 rfl (lv_room (Nat.le_of_ble_eq_true rfl)) dmX13_maps_69 ⟨(Nat.le_of_ble_eq_true rfl), (Nat.le_of_ble_eq_true rfl)⟩) (fun H locs hM => ?_)
        exact mw_iret hx hb hr hlocks hM hq hQQ dmX13_maps_72
      · intro x1 x2 x3 x4 x5 x6 t0 t1 z H locs ls  hM hl hq
        have hq : qm_X13_maps_3 K (q_X13_maps K k) x1 x2 x3 x4 x5 x6 t0 t1 z = some (r, z1) := hq
        unfold qm_X13_maps_3 at hq
        refine lv_iload hx hb dmX13_maps_93 (lv_at hl 4 rfl) ?_
        refine lv_aload_n hx hb dmX13_maps_95 rfl (lv_at hl 0 rfl) ?_
        refine mg13_114 hx hb hT hown hK hM dmX13_maps_96 ?_
        refine mg13_78 hx hb hT hown hK hM hN mw_n1 hq dmX13_maps_99 (fun v15 hq => ?_)
        refine lv_icmp_ge (tgt := 244) hx hb dmX13_maps_102 (by decide) (fun hc => ?_) (fun hc => ?_)
        · have hq := tw_it hq hc
          refine lv_iload_n hx hb dmX13_maps_244 rfl (lv_at hl 3 rfl) ?_
          exact mw_iret hx hb hr hlocks hM hq hQQ dmX13_maps_245
        · have hq := tw_if hq hc
          refine lv_iconst (v := 0) hx hb dmX13_maps_105 (by decide) ?_
          refine lv_istore (lv' := [(5, .int 0), (0, .ref (u 0)), (1, .int x1), (2, .int x2), (3, .int x3), (4, .int x4)]) hx hb dmX13_maps_106 hl (by decide) rfl (fun ls hl => ?_)
          refine lv_iconst (v := 0) hx hb dmX13_maps_108 (by decide) ?_
          refine lv_istore (lv' := [(6, .int 0), (5, .int 0), (0, .ref (u 0)), (1, .int x1), (2, .int x2), (3, .int x3), (4, .int x4)]) hx hb dmX13_maps_109 hl (by decide) rfl (fun ls hl => ?_)
          exact ih_4 x1 x2 x3 x4 0 0 0 0 z H locs ls hM (lv_sub hl [2, 3, 4, 5, 6, 1, 0] rfl) hq
      · intro x1 x2 x3 x4 x5 x6 t0 t1 z H locs ls  hM hl hq
        have hq : qm_X13_maps_4 K (q_X13_maps K k) x1 x2 x3 x4 x5 x6 t0 t1 z = some (r, z1) := hq
        unfold qm_X13_maps_4 at hq
        refine lv_iload hx hb dmX13_maps_111 (lv_at hl 6 rfl) ?_
        refine lv_bipush (v := 40) hx hb dmX13_maps_113 (by decide) ?_
        refine lv_icmp_ge (tgt := 132) hx hb dmX13_maps_115 (by decide) (fun hc => ?_) (fun hc => ?_)
        · have hq := tw_it hq hc
          refine lv_iconst (v := 0) hx hb dmX13_maps_132 (by decide) ?_
          refine lv_istore (lv' := [(6, .int 0), (0, .ref (u 0)), (1, .int x1), (2, .int x2), (3, .int x3), (4, .int x4), (5, .int x5)]) hx hb dmX13_maps_133 hl (by decide) rfl (fun ls hl => ?_)
          exact ih_5 x1 x2 x3 x4 x5 0 0 0 z H locs ls hM (lv_sub hl [1, 2, 3, 4, 5, 6, 0] rfl) hq
        · have hq := tw_if hq hc
          refine lv_aload_n hx hb dmX13_maps_118 rfl (lv_at hl 0 rfl) ?_
          refine mg13_277 hx hb hT hown hK hM dmX13_maps_119 ?_
          refine lv_iload hx hb dmX13_maps_122 (lv_at hl 6 rfl) ?_
          refine lv_iconst (v := (-1)) hx hb dmX13_maps_124 (by decide) ?_
          refine tw_iast mX_ok hU hx hb hK hM mr_77 hq dmX13_maps_125 (fun z16 H locs hM hq => ?_)
          refine lv_iinc (v := (x6 + 1)) (lv' := [(6, .int (x6 + 1)), (0, .ref (u 0)), (1, .int x1), (2, .int x2), (3, .int x3), (4, .int x4), (5, .int x5)]) hx hb dmX13_maps_126 hl (k := 6) rfl rfl (by decide) rfl (fun ls hl => ?_)
          refine lv_goto (tgt := 111) hx hb dmX13_maps_129 (by decide) ?_
          exact ih_4 x1 x2 x3 x4 x5 (x6 + 1) 0 0 z16 H locs ls hM (lv_sub hl [1, 2, 3, 4, 5, 6, 0] rfl) hq
      · intro x1 x2 x3 x4 x5 x6 t0 t1 z H locs ls  hM hl hq
        have hq : qm_X13_maps_5 K (q_X13_maps K k) x1 x2 x3 x4 x5 x6 t0 t1 z = some (r, z1) := hq
        unfold qm_X13_maps_5 at hq
        refine lv_iload hx hb dmX13_maps_135 (lv_at hl 6 rfl) ?_
        refine lv_aload_n hx hb dmX13_maps_137 rfl (lv_at hl 0 rfl) ?_
        refine mg13_114 hx hb hT hown hK hM dmX13_maps_138 ?_
        refine mg13_44 hx hb hT hown hK hM hN mw_n1 hq dmX13_maps_141 (fun v17 hq => ?_)
        refine lv_icmp_ge (tgt := 207) hx hb dmX13_maps_144 (by decide) (fun hc => ?_) (fun hc => ?_)
        · have hq := tw_it hq hc
          refine lv_aload_n hx hb dmX13_maps_207 rfl (lv_at hl 0 rfl) ?_
          refine lv_iconst (v := 0) hx hb dmX13_maps_208 (by decide) ?_
          refine mp13_675 hx hb hT hown hK hM hU hq dmX13_maps_209 (fun z18 H locs hM hq => ?_)
          refine lv_iload_n hx hb dmX13_maps_212 rfl (lv_at hl 3 rfl) ?_
          refine lv_iload hx hb dmX13_maps_213 (lv_at hl 5 rfl) ?_
          refine lv_if_eq (tgt := 230) hx hb dmX13_maps_215 (by decide) (fun hc => ?_) (fun hc => ?_)
          · have hq := tw_it hq hc
            refine lv_aload_n hx hb dmX13_maps_230 rfl (lv_at hl 0 rfl) ?_
            refine mg13_265 hx hb hT hown hK hM dmX13_maps_231 ?_
            refine lv_iload_n hx hb dmX13_maps_234 rfl (lv_at hl 2 rfl) ?_
            refine tw_iald mX_ok hx hb hK hM mr_73 hq dmX13_maps_235 (fun v19 hq => ?_)
            exact ih_7 x1 x2 x3 x4 x5 x6 v19 x3 z18 H locs ls hM (lv_sub hl [0, 1, 2, 3, 4, 5, 6] rfl) hq
          · have hq := tw_if hq hc
            refine lv_aload_n hx hb dmX13_maps_218 rfl (lv_at hl 0 rfl) ?_
            refine lv_aload_n hx hb dmX13_maps_219 rfl (lv_at hl 0 rfl) ?_
            refine mg13_114 hx hb hT hown hK hM dmX13_maps_220 ?_
            refine lv_iload_n hx hb dmX13_maps_223 rfl (lv_at hl 2 rfl) ?_
            obtain ⟨v21, z20, hcq, hq⟩ := tw_cl1 hq
            refine tw_cali hM (va_runV (As := [.ref (u 1000), .int x2]) (rest := [.int x3]) ⟨hx, hb, hml, hown, hts⟩ (km_X13_mapsOf l D q u hU K 1000 x2 mw_n1 z18 z20 v21 hcq) (cwV 2 hts (tw_gV wM_good wq_423 wq_424 wq_425 wq_61 wq_430) rfl rfl rfl cd_X13_mapsOf ⟨(Nat.le_of_ble_eq_true rfl), (Nat.le_of_ble_eq_true rfl)⟩) (mw_preV hK hN hM mo_0 rfl) rfl rfl hl.1 rfl (lv_room (Nat.le_of_ble_eq_true rfl)) dmX13_maps_224 ⟨(Nat.le_of_ble_eq_true rfl), (Nat.le_of_ble_eq_true rfl)⟩) (fun H locs hM => ?_)
            refine lv_goto (tgt := 236) hx hb dmX13_maps_227 (by decide) ?_
            exact ih_7 x1 x2 x3 x4 x5 x6 v21 x3 z20 H locs ls hM (lv_sub hl [0, 1, 2, 3, 4, 5, 6] rfl) hq
        · have hq := tw_if hq hc
          refine lv_aload_n hx hb dmX13_maps_147 rfl (lv_at hl 0 rfl) ?_
          refine mg13_114 hx hb hT hown hK hM dmX13_maps_148 ?_
          refine mg13_47 hx hb hT hown hK hM hN mw_n1 dmX13_maps_151 ?_
          refine lv_aload_n hx hb dmX13_maps_154 rfl (lv_at hl 0 rfl) ?_
          refine mg13_114 hx hb hT hown hK hM dmX13_maps_155 ?_
          refine mg13_18 hx hb hT hown hK hM hN mw_n1 dmX13_maps_158 ?_
          refine lv_iload hx hb dmX13_maps_161 (lv_at hl 6 rfl) ?_
          refine tw_iald mX_ok hx hb hK hM (mrn_8 mw_n1) hq dmX13_maps_163 (fun v22 hq => ?_)
          refine tw_iald mX_ok hx hb hK hM (mrn_12 mw_n1) hq dmX13_maps_164 (fun v23 hq => ?_)
          refine lv_iload hx hb dmX13_maps_165 (lv_at hl 4 rfl) ?_
          refine lv_icmp_ne (tgt := 174) hx hb dmX13_maps_167 (by decide) (fun hc => ?_) (fun hc => ?_)
          · have hq := tw_if hq hc
            refine lv_iconst (v := 0) hx hb dmX13_maps_174 (by decide) ?_
            exact ih_6 x1 x2 x3 x4 x5 x6 0 0 z H locs ls hM (lv_sub hl [0, 1, 2, 3, 4, 5, 6] rfl) hq
          · have hq := tw_it hq hc
            refine lv_iconst (v := 1) hx hb dmX13_maps_170 (by decide) ?_
            refine lv_goto (tgt := 175) hx hb dmX13_maps_171 (by decide) ?_
            exact ih_6 x1 x2 x3 x4 x5 x6 1 0 z H locs ls hM (lv_sub hl [0, 1, 2, 3, 4, 5, 6] rfl) hq
      · intro x1 x2 x3 x4 x5 x6 t0 t1 z H locs ls  hM hl hq
        have hq : qm_X13_maps_6 K (q_X13_maps K k) x1 x2 x3 x4 x5 x6 t0 t1 z = some (r, z1) := hq
        unfold qm_X13_maps_6 at hq
        refine lv_istore (lv' := [(7, .int t0), (0, .ref (u 0)), (1, .int x1), (2, .int x2), (3, .int x3), (4, .int x4), (5, .int x5), (6, .int x6)]) hx hb dmX13_maps_175 hl (by decide) rfl (fun ls hl => ?_)
        refine lv_aload_n hx hb dmX13_maps_177 rfl (lv_at hl 1 rfl) ?_
        refine mg13_283 hx hb hT hown hK hM dmX13_maps_178 ?_
        refine lv_aload_n hx hb dmX13_maps_181 rfl (lv_at hl 1 rfl) ?_
        refine mg13_114 hx hb hT hown hK hM dmX13_maps_182 ?_
        refine mg13_23 hx hb hT hown hK hM hN mw_n1 dmX13_maps_185 ?_
        refine lv_iload hx hb dmX13_maps_188 (lv_at hl 7 rfl) ?_
        refine tw_iald mX_ok hx hb hK hM (mrn_4 mw_n1) hq dmX13_maps_190 (fun v24 hq => ?_)
        refine lv_iload hx hb dmX13_maps_191 (lv_at hl 0 rfl) ?_
        refine tw_zast mX_ok hU hx hb hK hM mr_80 hq dmX13_maps_193 (fun z25 H locs hM hq => ?_)
        refine lv_iload hx hb dmX13_maps_194 (lv_at hl 6 rfl) ?_
        refine lv_iload hx hb dmX13_maps_196 (lv_at hl 0 rfl) ?_
        refine lv_ior hx hb dmX13_maps_198 ?_
        refine lv_istore (lv' := [(5, .int (x5 ||| t0)), (7, .int t0), (0, .ref (u 0)), (1, .int x1), (2, .int x2), (3, .int x3), (4, .int x4), (6, .int x6)]) hx hb dmX13_maps_199 hl (by decide) rfl (fun ls hl => ?_)
        refine lv_iinc (v := (x6 + 1)) (lv' := [(6, .int (x6 + 1)), (5, .int (x5 ||| t0)), (7, .int t0), (0, .ref (u 0)), (1, .int x1), (2, .int x2), (3, .int x3), (4, .int x4)]) hx hb dmX13_maps_201 hl (k := 7) rfl rfl (by decide) rfl (fun ls hl => ?_)
        refine lv_goto (tgt := 135) hx hb dmX13_maps_204 (by decide) ?_
        exact ih_5 x1 x2 x3 x4 (x5 ||| t0) (x6 + 1) 0 0 z25 H locs ls hM (lv_sub hl [3, 4, 5, 6, 7, 1, 0] rfl) hq
      · intro x1 x2 x3 x4 x5 x6 t0 t1 z H locs ls  hM hl hq
        have hq : qm_X13_maps_7 K (q_X13_maps K k) x1 x2 x3 x4 x5 x6 t0 t1 z = some (r, z1) := hq
        unfold qm_X13_maps_7 at hq
        refine lv_imul hx hb dmX13_maps_236 ?_
        refine lv_istore_n (lv' := [(3, .int (t1 * t0)), (0, .ref (u 0)), (1, .int x1), (2, .int x2), (4, .int x4), (5, .int x5), (6, .int x6)]) hx hb dmX13_maps_237 rfl hl (by decide) rfl (fun ls hl => ?_)
        refine lv_iinc (v := (x4 + 1)) (lv' := [(4, .int (x4 + 1)), (3, .int (t1 * t0)), (0, .ref (u 0)), (1, .int x1), (2, .int x2), (5, .int x5), (6, .int x6)]) hx hb dmX13_maps_238 hl (k := 4) rfl rfl (by decide) rfl (fun ls hl => ?_)
        refine lv_goto (tgt := 93) hx hb dmX13_maps_241 (by decide) ?_
        exact ih_3 x1 x2 (t1 * t0) (x4 + 1) 0 0 0 0 z H locs ls hM (lv_sub hl [2, 3, 4, 1, 0] rfl) hq
  exact (key K).1 x1 x2 0 0 0 0 0 0 z s.heap [] ls  hM (lv_sub hl [0, 1, 2] rfl) hq
theorem dmX13_makeStates_0 : decode cX13_makeStates 0 = .ok (.aload_n 0, 1) := dw_at cX13_makeStates_k0 (p := 0) rfl (by decide +kernel)
theorem dmX13_makeStates_1 : decode cX13_makeStates 1 = .ok (.aload_n 1, 1) := dw_at cX13_makeStates_k0 (p := 1) rfl (by decide +kernel)
theorem dmX13_makeStates_2 : decode cX13_makeStates 2 = .ok (.invokevirtual 438, 3) := dw_at cX13_makeStates_k0 (p := 2) rfl (by decide +kernel)
theorem dmX13_makeStates_5 : decode cX13_makeStates 5 = .ok (.istore_n 2, 1) := dw_at cX13_makeStates_k0 (p := 5) rfl (by decide +kernel)
theorem dmX13_makeStates_6 : decode cX13_makeStates 6 = .ok (.aload_n 1, 1) := dw_at cX13_makeStates_k0 (p := 6) rfl (by decide +kernel)
theorem dmX13_makeStates_7 : decode cX13_makeStates 7 = .ok (.getfield 44, 3) := dw_at cX13_makeStates_k0 (p := 7) rfl (by decide +kernel)
theorem dmX13_makeStates_10 : decode cX13_makeStates 10 = .ok (.iconst 2, 1) := dw_at cX13_makeStates_k0 (p := 10) rfl (by decide +kernel)
theorem dmX13_makeStates_11 : decode cX13_makeStates 11 = .ok (.idiv, 1) := dw_at cX13_makeStates_k0 (p := 11) rfl (by decide +kernel)
theorem dmX13_makeStates_12 : decode cX13_makeStates 12 = .ok (.istore_n 3, 1) := dw_at cX13_makeStates_k0 (p := 12) rfl (by decide +kernel)
theorem dmX13_makeStates_13 : decode cX13_makeStates 13 = .ok (.iconst 0, 1) := dw_at cX13_makeStates_k0 (p := 13) rfl (by decide +kernel)
theorem dmX13_makeStates_14 : decode cX13_makeStates 14 = .ok (.istore 4, 2) := dw_at cX13_makeStates_k0 (p := 14) rfl (by decide +kernel)
theorem dmX13_makeStates_16 : decode cX13_makeStates 16 = .ok (.iconst 0, 1) := dw_at cX13_makeStates_k0 (p := 16) rfl (by decide +kernel)
theorem dmX13_makeStates_17 : decode cX13_makeStates 17 = .ok (.istore 5, 2) := dw_at cX13_makeStates_k0 (p := 17) rfl (by decide +kernel)
theorem dmX13_makeStates_19 : decode cX13_makeStates 19 = .ok (.iload 5, 2) := dw_at cX13_makeStates_k0 (p := 19) rfl (by decide +kernel)
theorem dmX13_makeStates_21 : decode cX13_makeStates 21 = .ok (.iconst 1, 1) := dw_at cX13_makeStates_k0 (p := 21) rfl (by decide +kernel)
theorem dmX13_makeStates_22 : decode cX13_makeStates 22 = .ok (.iload_n 3, 1) := dw_at cX13_makeStates_k0 (p := 22) rfl (by decide +kernel)
theorem dmX13_makeStates_23 : decode cX13_makeStates 23 = .ok (.ishl, 1) := dw_at cX13_makeStates_k0 (p := 23) rfl (by decide +kernel)
theorem dmX13_makeStates_24 : decode cX13_makeStates 24 = .ok (.if_icmp .ge 147, 3) := dw_at cX13_makeStates_k1 (p := 0) rfl (by decide +kernel)
theorem dmX13_makeStates_27 : decode cX13_makeStates 27 = .ok (.aload_n 0, 1) := dw_at cX13_makeStates_k1 (p := 3) rfl (by decide +kernel)
theorem dmX13_makeStates_28 : decode cX13_makeStates 28 = .ok (.aload_n 1, 1) := dw_at cX13_makeStates_k1 (p := 4) rfl (by decide +kernel)
theorem dmX13_makeStates_29 : decode cX13_makeStates 29 = .ok (.iload 5, 2) := dw_at cX13_makeStates_k1 (p := 5) rfl (by decide +kernel)
theorem dmX13_makeStates_31 : decode cX13_makeStates 31 = .ok (.invokevirtual 587, 3) := dw_at cX13_makeStates_k1 (p := 7) rfl (by decide +kernel)
theorem dmX13_makeStates_34 : decode cX13_makeStates 34 = .ok (.iconst 0, 1) := dw_at cX13_makeStates_k1 (p := 10) rfl (by decide +kernel)
theorem dmX13_makeStates_35 : decode cX13_makeStates 35 = .ok (.istore 6, 2) := dw_at cX13_makeStates_k1 (p := 11) rfl (by decide +kernel)
theorem dmX13_makeStates_37 : decode cX13_makeStates 37 = .ok (.iconst 0, 1) := dw_at cX13_makeStates_k1 (p := 13) rfl (by decide +kernel)
theorem dmX13_makeStates_38 : decode cX13_makeStates 38 = .ok (.istore 7, 2) := dw_at cX13_makeStates_k1 (p := 14) rfl (by decide +kernel)
theorem dmX13_makeStates_40 : decode cX13_makeStates 40 = .ok (.iload 7, 2) := dw_at cX13_makeStates_k1 (p := 16) rfl (by decide +kernel)
theorem dmX13_makeStates_42 : decode cX13_makeStates 42 = .ok (.aload_n 1, 1) := dw_at cX13_makeStates_k1 (p := 18) rfl (by decide +kernel)
theorem dmX13_makeStates_43 : decode cX13_makeStates 43 = .ok (.getfield 44, 3) := dw_at cX13_makeStates_k1 (p := 19) rfl (by decide +kernel)
theorem dmX13_makeStates_46 : decode cX13_makeStates 46 = .ok (.if_icmp .ge 40, 3) := dw_at cX13_makeStates_k1 (p := 22) rfl (by decide +kernel)
theorem dmX13_makeStates_49 : decode cX13_makeStates 49 = .ok (.aload_n 0, 1) := dw_at cX13_makeStates_k2 (p := 0) rfl (by decide +kernel)
theorem dmX13_makeStates_50 : decode cX13_makeStates 50 = .ok (.getfield 199, 3) := dw_at cX13_makeStates_k2 (p := 1) rfl (by decide +kernel)
theorem dmX13_makeStates_53 : decode cX13_makeStates 53 = .ok (.iload 7, 2) := dw_at cX13_makeStates_k2 (p := 4) rfl (by decide +kernel)
theorem dmX13_makeStates_55 : decode cX13_makeStates 55 = .ok (.iaload, 1) := dw_at cX13_makeStates_k2 (p := 6) rfl (by decide +kernel)
theorem dmX13_makeStates_56 : decode cX13_makeStates 56 = .ok (.iload 7, 2) := dw_at cX13_makeStates_k2 (p := 7) rfl (by decide +kernel)
theorem dmX13_makeStates_58 : decode cX13_makeStates 58 = .ok (.if_icmp .ne 22, 3) := dw_at cX13_makeStates_k2 (p := 9) rfl (by decide +kernel)
theorem dmX13_makeStates_61 : decode cX13_makeStates 61 = .ok (.aload_n 0, 1) := dw_at cX13_makeStates_k2 (p := 12) rfl (by decide +kernel)
theorem dmX13_makeStates_62 : decode cX13_makeStates 62 = .ok (.getfield 286, 3) := dw_at cX13_makeStates_k2 (p := 13) rfl (by decide +kernel)
theorem dmX13_makeStates_65 : decode cX13_makeStates 65 = .ok (.bipush 32, 2) := dw_at cX13_makeStates_k2 (p := 16) rfl (by decide +kernel)
theorem dmX13_makeStates_67 : decode cX13_makeStates 67 = .ok (.iload 5, 2) := dw_at cX13_makeStates_k2 (p := 18) rfl (by decide +kernel)
theorem dmX13_makeStates_69 : decode cX13_makeStates 69 = .ok (.imul, 1) := dw_at cX13_makeStates_k2 (p := 20) rfl (by decide +kernel)
theorem dmX13_makeStates_70 : decode cX13_makeStates 70 = .ok (.iload 7, 2) := dw_at cX13_makeStates_k2 (p := 21) rfl (by decide +kernel)
theorem dmX13_makeStates_72 : decode cX13_makeStates 72 = .ok (.iadd, 1) := dw_at cX13_makeStates_k2 (p := 23) rfl (by decide +kernel)
theorem dmX13_makeStates_73 : decode cX13_makeStates 73 = .ok (.iload 6, 2) := dw_at cX13_makeStates_k3 (p := 0) rfl (by decide +kernel)
theorem dmX13_makeStates_75 : decode cX13_makeStates 75 = .ok (.i2b, 1) := dw_at cX13_makeStates_k3 (p := 2) rfl (by decide +kernel)
theorem dmX13_makeStates_76 : decode cX13_makeStates 76 = .ok (.bastore, 1) := dw_at cX13_makeStates_k3 (p := 3) rfl (by decide +kernel)
theorem dmX13_makeStates_77 : decode cX13_makeStates 77 = .ok (.iinc 6 1, 3) := dw_at cX13_makeStates_k3 (p := 4) rfl (by decide +kernel)
theorem dmX13_makeStates_80 : decode cX13_makeStates 80 = .ok (.iinc 7 1, 3) := dw_at cX13_makeStates_k3 (p := 7) rfl (by decide +kernel)
theorem dmX13_makeStates_83 : decode cX13_makeStates 83 = .ok (.goto (-43), 3) := dw_at cX13_makeStates_k3 (p := 10) rfl (by decide +kernel)
theorem dmX13_makeStates_86 : decode cX13_makeStates 86 = .ok (.iconst 0, 1) := dw_at cX13_makeStates_k3 (p := 13) rfl (by decide +kernel)
theorem dmX13_makeStates_87 : decode cX13_makeStates 87 = .ok (.istore 7, 2) := dw_at cX13_makeStates_k3 (p := 14) rfl (by decide +kernel)
theorem dmX13_makeStates_89 : decode cX13_makeStates 89 = .ok (.iload 7, 2) := dw_at cX13_makeStates_k3 (p := 16) rfl (by decide +kernel)
theorem dmX13_makeStates_91 : decode cX13_makeStates 91 = .ok (.aload_n 1, 1) := dw_at cX13_makeStates_k3 (p := 18) rfl (by decide +kernel)
theorem dmX13_makeStates_92 : decode cX13_makeStates 92 = .ok (.getfield 44, 3) := dw_at cX13_makeStates_k3 (p := 19) rfl (by decide +kernel)
theorem dmX13_makeStates_95 : decode cX13_makeStates 95 = .ok (.if_icmp .ge 39, 3) := dw_at cX13_makeStates_k3 (p := 22) rfl (by decide +kernel)
theorem dmX13_makeStates_98 : decode cX13_makeStates 98 = .ok (.aload_n 0, 1) := dw_at cX13_makeStates_k4 (p := 0) rfl (by decide +kernel)
theorem dmX13_makeStates_99 : decode cX13_makeStates 99 = .ok (.getfield 286, 3) := dw_at cX13_makeStates_k4 (p := 1) rfl (by decide +kernel)
theorem dmX13_makeStates_102 : decode cX13_makeStates 102 = .ok (.bipush 32, 2) := dw_at cX13_makeStates_k4 (p := 4) rfl (by decide +kernel)
theorem dmX13_makeStates_104 : decode cX13_makeStates 104 = .ok (.iload 5, 2) := dw_at cX13_makeStates_k4 (p := 6) rfl (by decide +kernel)
theorem dmX13_makeStates_106 : decode cX13_makeStates 106 = .ok (.imul, 1) := dw_at cX13_makeStates_k4 (p := 8) rfl (by decide +kernel)
theorem dmX13_makeStates_107 : decode cX13_makeStates 107 = .ok (.iload 7, 2) := dw_at cX13_makeStates_k4 (p := 9) rfl (by decide +kernel)
theorem dmX13_makeStates_109 : decode cX13_makeStates 109 = .ok (.iadd, 1) := dw_at cX13_makeStates_k4 (p := 11) rfl (by decide +kernel)
theorem dmX13_makeStates_110 : decode cX13_makeStates 110 = .ok (.aload_n 0, 1) := dw_at cX13_makeStates_k4 (p := 12) rfl (by decide +kernel)
theorem dmX13_makeStates_111 : decode cX13_makeStates 111 = .ok (.getfield 286, 3) := dw_at cX13_makeStates_k4 (p := 13) rfl (by decide +kernel)
theorem dmX13_makeStates_114 : decode cX13_makeStates 114 = .ok (.bipush 32, 2) := dw_at cX13_makeStates_k4 (p := 16) rfl (by decide +kernel)
theorem dmX13_makeStates_116 : decode cX13_makeStates 116 = .ok (.iload 5, 2) := dw_at cX13_makeStates_k4 (p := 18) rfl (by decide +kernel)
theorem dmX13_makeStates_118 : decode cX13_makeStates 118 = .ok (.imul, 1) := dw_at cX13_makeStates_k4 (p := 20) rfl (by decide +kernel)
theorem dmX13_makeStates_119 : decode cX13_makeStates 119 = .ok (.aload_n 0, 1) := dw_at cX13_makeStates_k4 (p := 21) rfl (by decide +kernel)
theorem dmX13_makeStates_120 : decode cX13_makeStates 120 = .ok (.iload 7, 2) := dw_at cX13_makeStates_k4 (p := 22) rfl (by decide +kernel)
theorem dmX13_makeStates_122 : decode cX13_makeStates 122 = .ok (.invokevirtual 578, 3) := dw_at cX13_makeStates_k5 (p := 0) rfl (by decide +kernel)
theorem dmX13_makeStates_125 : decode cX13_makeStates 125 = .ok (.iadd, 1) := dw_at cX13_makeStates_k5 (p := 3) rfl (by decide +kernel)
theorem dmX13_makeStates_126 : decode cX13_makeStates 126 = .ok (.baload, 1) := dw_at cX13_makeStates_k5 (p := 4) rfl (by decide +kernel)
theorem dmX13_makeStates_127 : decode cX13_makeStates 127 = .ok (.bastore, 1) := dw_at cX13_makeStates_k5 (p := 5) rfl (by decide +kernel)
theorem dmX13_makeStates_128 : decode cX13_makeStates 128 = .ok (.iinc 7 1, 3) := dw_at cX13_makeStates_k5 (p := 6) rfl (by decide +kernel)
theorem dmX13_makeStates_131 : decode cX13_makeStates 131 = .ok (.goto (-42), 3) := dw_at cX13_makeStates_k5 (p := 9) rfl (by decide +kernel)
theorem dmX13_makeStates_134 : decode cX13_makeStates 134 = .ok (.aload_n 0, 1) := dw_at cX13_makeStates_k5 (p := 12) rfl (by decide +kernel)
theorem dmX13_makeStates_135 : decode cX13_makeStates 135 = .ok (.getfield 289, 3) := dw_at cX13_makeStates_k5 (p := 13) rfl (by decide +kernel)
theorem dmX13_makeStates_138 : decode cX13_makeStates 138 = .ok (.iload 5, 2) := dw_at cX13_makeStates_k5 (p := 16) rfl (by decide +kernel)
theorem dmX13_makeStates_140 : decode cX13_makeStates 140 = .ok (.iload 6, 2) := dw_at cX13_makeStates_k5 (p := 18) rfl (by decide +kernel)
theorem dmX13_makeStates_142 : decode cX13_makeStates 142 = .ok (.iload_n 2, 1) := dw_at cX13_makeStates_k5 (p := 20) rfl (by decide +kernel)
theorem dmX13_makeStates_143 : decode cX13_makeStates 143 = .ok (.iadd, 1) := dw_at cX13_makeStates_k5 (p := 21) rfl (by decide +kernel)
theorem dmX13_makeStates_144 : decode cX13_makeStates 144 = .ok (.iastore, 1) := dw_at cX13_makeStates_k5 (p := 22) rfl (by decide +kernel)
theorem dmX13_makeStates_145 : decode cX13_makeStates 145 = .ok (.aload_n 0, 1) := dw_at cX13_makeStates_k5 (p := 23) rfl (by decide +kernel)
theorem dmX13_makeStates_146 : decode cX13_makeStates 146 = .ok (.getfield 292, 3) := dw_at cX13_makeStates_k6 (p := 0) rfl (by decide +kernel)
theorem dmX13_makeStates_149 : decode cX13_makeStates 149 = .ok (.iload 5, 2) := dw_at cX13_makeStates_k6 (p := 3) rfl (by decide +kernel)
theorem dmX13_makeStates_151 : decode cX13_makeStates 151 = .ok (.iload 4, 2) := dw_at cX13_makeStates_k6 (p := 5) rfl (by decide +kernel)
theorem dmX13_makeStates_153 : decode cX13_makeStates 153 = .ok (.iastore, 1) := dw_at cX13_makeStates_k6 (p := 7) rfl (by decide +kernel)
theorem dmX13_makeStates_154 : decode cX13_makeStates 154 = .ok (.iload 4, 2) := dw_at cX13_makeStates_k6 (p := 8) rfl (by decide +kernel)
theorem dmX13_makeStates_156 : decode cX13_makeStates 156 = .ok (.iconst 1, 1) := dw_at cX13_makeStates_k6 (p := 10) rfl (by decide +kernel)
theorem dmX13_makeStates_157 : decode cX13_makeStates 157 = .ok (.iload 6, 2) := dw_at cX13_makeStates_k6 (p := 11) rfl (by decide +kernel)
theorem dmX13_makeStates_159 : decode cX13_makeStates 159 = .ok (.iload_n 2, 1) := dw_at cX13_makeStates_k6 (p := 13) rfl (by decide +kernel)
theorem dmX13_makeStates_160 : decode cX13_makeStates 160 = .ok (.iadd, 1) := dw_at cX13_makeStates_k6 (p := 14) rfl (by decide +kernel)
theorem dmX13_makeStates_161 : decode cX13_makeStates 161 = .ok (.ishl, 1) := dw_at cX13_makeStates_k6 (p := 15) rfl (by decide +kernel)
theorem dmX13_makeStates_162 : decode cX13_makeStates 162 = .ok (.iadd, 1) := dw_at cX13_makeStates_k6 (p := 16) rfl (by decide +kernel)
theorem dmX13_makeStates_163 : decode cX13_makeStates 163 = .ok (.istore 4, 2) := dw_at cX13_makeStates_k6 (p := 17) rfl (by decide +kernel)
theorem dmX13_makeStates_165 : decode cX13_makeStates 165 = .ok (.iinc 5 1, 3) := dw_at cX13_makeStates_k6 (p := 19) rfl (by decide +kernel)
theorem dmX13_makeStates_168 : decode cX13_makeStates 168 = .ok (.goto (-149), 3) := dw_at cX13_makeStates_k6 (p := 22) rfl (by decide +kernel)
theorem dmX13_makeStates_171 : decode cX13_makeStates 171 = .ok (.aload_n 0, 1) := dw_at cX13_makeStates_k7 (p := 0) rfl (by decide +kernel)
theorem dmX13_makeStates_172 : decode cX13_makeStates 172 = .ok (.getfield 292, 3) := dw_at cX13_makeStates_k7 (p := 1) rfl (by decide +kernel)
theorem dmX13_makeStates_175 : decode cX13_makeStates 175 = .ok (.iconst 1, 1) := dw_at cX13_makeStates_k7 (p := 4) rfl (by decide +kernel)
theorem dmX13_makeStates_176 : decode cX13_makeStates 176 = .ok (.iload_n 3, 1) := dw_at cX13_makeStates_k7 (p := 5) rfl (by decide +kernel)
theorem dmX13_makeStates_177 : decode cX13_makeStates 177 = .ok (.ishl, 1) := dw_at cX13_makeStates_k7 (p := 6) rfl (by decide +kernel)
theorem dmX13_makeStates_178 : decode cX13_makeStates 178 = .ok (.iload 4, 2) := dw_at cX13_makeStates_k7 (p := 7) rfl (by decide +kernel)
theorem dmX13_makeStates_180 : decode cX13_makeStates 180 = .ok (.iastore, 1) := dw_at cX13_makeStates_k7 (p := 9) rfl (by decide +kernel)
theorem dmX13_makeStates_181 : decode cX13_makeStates 181 = .ok (.return_, 1) := dw_at cX13_makeStates_k7 (p := 10) rfl (by decide +kernel)
def qm_X13_makeStates_0 (K : Nat) (go : Nat → Int32 → Int32 → Int32 → Int32 → Int32 → Int32 → Nat → ow_MS → Option ow_MS) (x2 : Int32) (x3 : Int32) (x4 : Int32) (x5 : Int32) (x6 : Int32) (x7 : Int32) (r1 : Nat) (z : ow_MS) : Option ow_MS :=
 cs1 (qe_X13_circlesOf K r1 z) fun v2 z1 => rdF z1 (r1 + 1) fun v3 => nzI 2 (go 1 v2 (v3 / 2) 0 0 0 0 r1 z1)
def qm_X13_makeStates_1 (K : Nat) (go : Nat → Int32 → Int32 → Int32 → Int32 → Int32 → Int32 → Nat → ow_MS → Option ow_MS) (x2 : Int32) (x3 : Int32) (x4 : Int32) (x5 : Int32) (x6 : Int32) (x7 : Int32) (r1 : Nat) (z : ow_MS) : Option ow_MS :=
 (if ((1 : Int32) <<< ((x3 : Int32) &&& 31)) ≤ x5 then wrI mX z 83 ((1 : Int32) <<< ((x3 : Int32) &&& 31)) x4 fun z4 => some z4
 else cs0 (qe_X13_loops K r1 x5 z) fun z5 => go 2 x2 x3 x4 x5 0 0 r1 z5)
def qm_X13_makeStates_2 (K : Nat) (go : Nat → Int32 → Int32 → Int32 → Int32 → Int32 → Int32 → Nat → ow_MS → Option ow_MS) (x2 : Int32) (x3 : Int32) (x4 : Int32) (x5 : Int32) (x6 : Int32) (x7 : Int32) (r1 : Nat) (z : ow_MS) : Option ow_MS :=
 rdF z (r1 + 1) fun v6 => (if v6 ≤ x7 then go 4 x2 x3 x4 x5 x6 0 r1 z
 else rdI mX z 47 x7 fun v7 => (if v7 = x7 then wrB mX z 81 ((32 * x5) + x7) x6.toInt8.toInt32 fun z8 => go 3 x2 x3 x4 x5 (x6 + 1) x7 r1 z8
 else go 3 x2 x3 x4 x5 x6 x7 r1 z))
def qm_X13_makeStates_3 (K : Nat) (go : Nat → Int32 → Int32 → Int32 → Int32 → Int32 → Int32 → Nat → ow_MS → Option ow_MS) (x2 : Int32) (x3 : Int32) (x4 : Int32) (x5 : Int32) (x6 : Int32) (x7 : Int32) (r1 : Nat) (z : ow_MS) : Option ow_MS :=
 go 2 x2 x3 x4 x5 x6 (x7 + 1) r1 z
def qm_X13_makeStates_4 (K : Nat) (go : Nat → Int32 → Int32 → Int32 → Int32 → Int32 → Int32 → Nat → ow_MS → Option ow_MS) (x2 : Int32) (x3 : Int32) (x4 : Int32) (x5 : Int32) (x6 : Int32) (x7 : Int32) (r1 : Nat) (z : ow_MS) : Option ow_MS :=
 rdF z (r1 + 1) fun v9 => (if v9 ≤ x7 then wrI mX z 82 x5 (x6 + x2) fun z10 => wrI mX z10 83 x5 x4 fun z11 => go 1 x2 x3 (x4 + ((1 : Int32) <<< (((x6 + x2) : Int32) &&& 31))) (x5 + 1) 0 0 r1 z11
 else cs1 (qe_X13_root K x7 z) fun v13 z12 => rdI mX z12 81 ((32 * x5) + v13) fun v14 => wrB mX z12 81 ((32 * x5) + x7) v14 fun z15 => go 4 x2 x3 x4 x5 x6 (x7 + 1) r1 z15)
def qb_X13_makeStates (K : Nat) (go : Nat → Int32 → Int32 → Int32 → Int32 → Int32 → Int32 → Nat → ow_MS → Option ow_MS) (L : Nat) (x2 : Int32) (x3 : Int32) (x4 : Int32) (x5 : Int32) (x6 : Int32) (x7 : Int32) (r1 : Nat) (z : ow_MS) : Option ow_MS := match L with
  | 0 => qm_X13_makeStates_0 K go x2 x3 x4 x5 x6 x7 r1 z
  | 1 => qm_X13_makeStates_1 K go x2 x3 x4 x5 x6 x7 r1 z
  | 2 => qm_X13_makeStates_2 K go x2 x3 x4 x5 x6 x7 r1 z
  | 3 => qm_X13_makeStates_3 K go x2 x3 x4 x5 x6 x7 r1 z
  | 4 => qm_X13_makeStates_4 K go x2 x3 x4 x5 x6 x7 r1 z
  | _ => none
def q_X13_makeStates (K : Nat) : Nat → Nat → Int32 → Int32 → Int32 → Int32 → Int32 → Int32 → Nat → ow_MS → Option ow_MS
  | 0 => fun _ _ _ _ _ _ _ _ _ => none
  | k + 1 => qb_X13_makeStates K (q_X13_makeStates K k)
def qe_X13_makeStates (K : Nat) (r1 : Nat) (z : ow_MS) : Option ow_MS := q_X13_makeStates K K 0 0 0 0 0 0 0 r1 z
abbrev wm_X13_makeStates : List Cond := .code yX13_makeStates cX13_makeStates 8 none :: wM
theorem cd_X13_makeStates : yX13_makeStates.cls = RX13 ∧ yX13_makeStates.cls ≠ "java/lang/invoke/MethodHandle" ∧ yX13_makeStates.cls ≠ "java/lang/invoke/VarHandle" ∧ (parseMethodDescriptor yX13_makeStates.desc).map (fun d => d.parameters.length) = some 1 := by decide +kernel
set_option maxHeartbeats 4000000 in
set_option maxRecDepth 100000 in
theorem km_X13_makeStates (l : Launch) (D : va_G) (q : ow_Q5) (u : Nat → Nat) (hU : tw_inj mX u) (K : Nat) (r1 : Nat) (hr1 : mw_net r1) (z z1 : ow_MS) (hq : qe_X13_makeStates K r1 z = some z1) : Met l yX13_makeStates wm_X13_makeStates ({ frames := 3, cells := 0, slots := 0, locals := 71 } : Room) (va_Pc [.ref (u 0), .ref (u r1)] (mw_pre D q u z)) (va_Qv (fun (_ : Unit) => True) (fun _ t => va_P D vwCl (tw mX q u z1) t.heap) (tw_A mX u)) 0 0 (tw_A mX u) := by
  refine Met.ofW (cc := cX13_makeStates) (maxL := 8) (ret := none) (by decide) rfl ?_
  intro p e s m args below meth c s₁ B hml hv
  obtain ⟨rfl, hP, hK, hN⟩ := hv
  have hx := B.exec
  have hb := B.bytes
  have hr := B.returns
  have hts := atoms_spec (ws := wm_X13_makeStates) B.pre
  have hT : ∀ w ∈ wM, w.before ([.ref (u 0), .ref (u r1)] : List Value).toArray s = true := fun w h => hts w (List.mem_cons_of_mem _ h)
  have hown : s.vm.findClass RX13 = some m.cls := findClass_of_methodNamed B.named
  have hlocks := B.notSynchronized
  have hM : tw_M D vwCl mX q s.heap u z s.heap [] := ⟨hP, va_S.rf⟩
  have hl := lv_entry ([.ref (u 0), .ref (u r1)]) (n := 8) (Nat.le_of_ble_eq_true rfl)
  rw [lg_entry_eq]
  generalize (lg_sl ([.ref (u 0), .ref (u r1)]) ++ List.replicate (8 - (lg_sl ([.ref (u 0), .ref (u r1)])).length) Slot.unset).toArray = ls at hl ⊢
  have hl : lv_has ls 8 [(0, .ref (u 0)), (1, .ref (u r1))] := hl
  refine ow_named (fun QQ hQQ => ?_)
  generalize ([.ref (u 0), .ref (u r1)] : List Value).toArray = args at hts hT hQQ ⊢
  have key : ∀ k : Nat, (∀ (x2 : Int32) (x3 : Int32) (x4 : Int32) (x5 : Int32) (x6 : Int32) (x7 : Int32) (r1 : Nat) (z : ow_MS) (H : Heap) (locs : List Loc) (ls : Array Slot), mw_net r1 → tw_M D vwCl mX q s.heap u z H locs → lv_has ls 8 [(0, .ref (u 0)), (1, .ref (u r1))] → q_X13_makeStates K k 0 x2 x3 x4 x5 x6 x7 r1 z = some z1 → W p l e ({ frames := 3, cells := 0, slots := 0, locals := 71 } : Room) s m args below meth c H locs 0 0 QQ (F0 m 0 ls [])) ∧ (∀ (x2 : Int32) (x3 : Int32) (x4 : Int32) (x5 : Int32) (x6 : Int32) (x7 : Int32) (r1 : Nat) (z : ow_MS) (H : Heap) (locs : List Loc) (ls : Array Slot), mw_net r1 → tw_M D vwCl mX q s.heap u z H locs → lv_has ls 8 [(0, .ref (u 0)), (1, .ref (u r1)), (2, .int x2), (3, .int x3), (4, .int x4), (5, .int x5)] → q_X13_makeStates K k 1 x2 x3 x4 x5 x6 x7 r1 z = some z1 → W p l e ({ frames := 3, cells := 0, slots := 0, locals := 71 } : Room) s m args below meth c H locs 0 0 QQ (F0 m 19 ls [])) ∧ (∀ (x2 : Int32) (x3 : Int32) (x4 : Int32) (x5 : Int32) (x6 : Int32) (x7 : Int32) (r1 : Nat) (z : ow_MS) (H : Heap) (locs : List Loc) (ls : Array Slot), mw_net r1 → tw_M D vwCl mX q s.heap u z H locs → lv_has ls 8 [(0, .ref (u 0)), (1, .ref (u r1)), (2, .int x2), (3, .int x3), (4, .int x4), (5, .int x5), (6, .int x6), (7, .int x7)] → q_X13_makeStates K k 2 x2 x3 x4 x5 x6 x7 r1 z = some z1 → W p l e ({ frames := 3, cells := 0, slots := 0, locals := 71 } : Room) s m args below meth c H locs 0 0 QQ (F0 m 40 ls [])) ∧ (∀ (x2 : Int32) (x3 : Int32) (x4 : Int32) (x5 : Int32) (x6 : Int32) (x7 : Int32) (r1 : Nat) (z : ow_MS) (H : Heap) (locs : List Loc) (ls : Array Slot), mw_net r1 → tw_M D vwCl mX q s.heap u z H locs → lv_has ls 8 [(0, .ref (u 0)), (1, .ref (u r1)), (2, .int x2), (3, .int x3), (4, .int x4), (5, .int x5), (6, .int x6), (7, .int x7)] → q_X13_makeStates K k 3 x2 x3 x4 x5 x6 x7 r1 z = some z1 → W p l e ({ frames := 3, cells := 0, slots := 0, locals := 71 } : Room) s m args below meth c H locs 0 0 QQ (F0 m 80 ls [])) ∧ (∀ (x2 : Int32) (x3 : Int32) (x4 : Int32) (x5 : Int32) (x6 : Int32) (x7 : Int32) (r1 : Nat) (z : ow_MS) (H : Heap) (locs : List Loc) (ls : Array Slot), mw_net r1 → tw_M D vwCl mX q s.heap u z H locs → lv_has ls 8 [(0, .ref (u 0)), (1, .ref (u r1)), (2, .int x2), (3, .int x3), (4, .int x4), (5, .int x5), (6, .int x6), (7, .int x7)] → q_X13_makeStates K k 4 x2 x3 x4 x5 x6 x7 r1 z = some z1 → W p l e ({ frames := 3, cells := 0, slots := 0, locals := 71 } : Room) s m args below meth c H locs 0 0 QQ (F0 m 89 ls [])) := by
    intro k
    induction k with
    | zero => exact ⟨fun _ _ _ _ _ _ _ _ _ _ _ _ _ _ hq => tw_no hq, fun _ _ _ _ _ _ _ _ _ _ _ _ _ _ hq => tw_no hq, fun _ _ _ _ _ _ _ _ _ _ _ _ _ _ hq => tw_no hq, fun _ _ _ _ _ _ _ _ _ _ _ _ _ _ hq => tw_no hq, fun _ _ _ _ _ _ _ _ _ _ _ _ _ _ hq => tw_no hq⟩
    | succ k ih =>
      obtain ⟨ih_0, ih_1, ih_2, ih_3, ih_4⟩ := ih
      refine ⟨?_, ?_, ?_, ?_, ?_⟩
      · intro x2 x3 x4 x5 x6 x7 r1 z H locs ls hr1 hM hl hq
        have hq : qm_X13_makeStates_0 K (q_X13_makeStates K k) x2 x3 x4 x5 x6 x7 r1 z = some z1 := hq
        unfold qm_X13_makeStates_0 at hq
        refine lv_aload_n hx hb dmX13_makeStates_0 rfl (lv_at hl 0 rfl) ?_
        refine lv_aload_n hx hb dmX13_makeStates_1 rfl (lv_at hl 1 rfl) ?_
        obtain ⟨v2, z1, hcq, hq⟩ := tw_cl1 hq
        refine tw_cali hM (va_runV (As := [.ref (u r1)]) (rest := []) ⟨hx, hb, hml, hown, hts⟩ (km_X13_circlesOf l D q u hU K r1 hr1 z z1 v2 hcq) (cwV 1 hts (tw_gV wM_good wq_141 wq_142 wq_143 wq_61 wq_132) rfl rfl rfl cd_X13_circlesOf ⟨(Nat.le_of_ble_eq_true rfl), (Nat.le_of_ble_eq_true rfl)⟩) (mw_preV hK hN hM mo_0 rfl) rfl rfl hl.1 rfl (lv_room (Nat.le_of_ble_eq_true rfl)) dmX13_makeStates_2 ⟨(Nat.le_of_ble_eq_true rfl), (Nat.le_of_ble_eq_true rfl)⟩) (fun H locs hM => ?_)
        refine lv_istore_n (lv' := [(2, .int v2), (0, .ref (u 0)), (1, .ref (u r1))]) hx hb dmX13_makeStates_5 rfl hl (by decide) rfl (fun ls hl => ?_)
        refine lv_aload_n hx hb dmX13_makeStates_6 rfl (lv_at hl 2 rfl) ?_
        refine mg13_44 hx hb hT hown hK hM hN hr1 hq dmX13_makeStates_7 (fun v3 hq => ?_)
        refine lv_iconst (v := 2) hx hb dmX13_makeStates_10 (by decide) ?_
        obtain ⟨hz, hq⟩ := tw_nzI hq
        refine lv_idiv hx hb dmX13_makeStates_11 hz ?_
        refine lv_istore_n (lv' := [(3, .int (v3 / 2)), (2, .int v2), (0, .ref (u 0)), (1, .ref (u r1))]) hx hb dmX13_makeStates_12 rfl hl (by decide) rfl (fun ls hl => ?_)
        refine lv_iconst (v := 0) hx hb dmX13_makeStates_13 (by decide) ?_
        refine lv_istore (lv' := [(4, .int 0), (3, .int (v3 / 2)), (2, .int v2), (0, .ref (u 0)), (1, .ref (u r1))]) hx hb dmX13_makeStates_14 hl (by decide) rfl (fun ls hl => ?_)
        refine lv_iconst (v := 0) hx hb dmX13_makeStates_16 (by decide) ?_
        refine lv_istore (lv' := [(5, .int 0), (4, .int 0), (3, .int (v3 / 2)), (2, .int v2), (0, .ref (u 0)), (1, .ref (u r1))]) hx hb dmX13_makeStates_17 hl (by decide) rfl (fun ls hl => ?_)
        exact ih_1 v2 (v3 / 2) 0 0 0 0 r1 z1 H locs ls hr1 hM (lv_sub hl [4, 5, 3, 2, 1, 0] rfl) hq
      · intro x2 x3 x4 x5 x6 x7 r1 z H locs ls hr1 hM hl hq
        have hq : qm_X13_makeStates_1 K (q_X13_makeStates K k) x2 x3 x4 x5 x6 x7 r1 z = some z1 := hq
        unfold qm_X13_makeStates_1 at hq
        refine lv_iload hx hb dmX13_makeStates_19 (lv_at hl 5 rfl) ?_
        refine lv_iconst (v := 1) hx hb dmX13_makeStates_21 (by decide) ?_
        refine lv_iload_n hx hb dmX13_makeStates_22 rfl (lv_at hl 3 rfl) ?_
        refine lv_ishl hx hb dmX13_makeStates_23 ?_
        refine lv_icmp_ge (tgt := 171) hx hb dmX13_makeStates_24 (by decide) (fun hc => ?_) (fun hc => ?_)
        · have hq := tw_it hq hc
          refine lv_aload_n hx hb dmX13_makeStates_171 rfl (lv_at hl 0 rfl) ?_
          refine mg13_292 hx hb hT hown hK hM dmX13_makeStates_172 ?_
          refine lv_iconst (v := 1) hx hb dmX13_makeStates_175 (by decide) ?_
          refine lv_iload_n hx hb dmX13_makeStates_176 rfl (lv_at hl 3 rfl) ?_
          refine lv_ishl hx hb dmX13_makeStates_177 ?_
          refine lv_iload hx hb dmX13_makeStates_178 (lv_at hl 4 rfl) ?_
          refine tw_iast mX_ok hU hx hb hK hM mr_83 hq dmX13_makeStates_180 (fun z4 H locs hM hq => ?_)
          exact mw_vret hx hb hr hlocks hM hq hQQ dmX13_makeStates_181
        · have hq := tw_if hq hc
          refine lv_aload_n hx hb dmX13_makeStates_27 rfl (lv_at hl 0 rfl) ?_
          refine lv_aload_n hx hb dmX13_makeStates_28 rfl (lv_at hl 1 rfl) ?_
          refine lv_iload hx hb dmX13_makeStates_29 (lv_at hl 5 rfl) ?_
          obtain ⟨z5, hcq, hq⟩ := tw_cl0 hq
          refine tw_calv hM (va_runV (As := [.ref (u r1), .int x5]) (rest := []) ⟨hx, hb, hml, hown, hts⟩ (km_X13_loops l D q u hU K r1 x5 hr1 z z5 hcq) (cwV 2 hts (tw_gV wM_good wq_304 wq_305 wq_306 wq_61 wq_299) rfl rfl rfl cd_X13_loops ⟨(Nat.le_of_ble_eq_true rfl), (Nat.le_of_ble_eq_true rfl)⟩) (mw_preV hK hN hM mo_0 rfl) rfl rfl hl.1 rfl (lv_room (Nat.le_of_ble_eq_true rfl)) dmX13_makeStates_31 ⟨(Nat.le_of_ble_eq_true rfl), (Nat.le_of_ble_eq_true rfl)⟩) (fun H locs hM => ?_)
          refine lv_iconst (v := 0) hx hb dmX13_makeStates_34 (by decide) ?_
          refine lv_istore (lv' := [(6, .int 0), (0, .ref (u 0)), (1, .ref (u r1)), (2, .int x2), (3, .int x3), (4, .int x4), (5, .int x5)]) hx hb dmX13_makeStates_35 hl (by decide) rfl (fun ls hl => ?_)
          refine lv_iconst (v := 0) hx hb dmX13_makeStates_37 (by decide) ?_
          refine lv_istore (lv' := [(7, .int 0), (6, .int 0), (0, .ref (u 0)), (1, .ref (u r1)), (2, .int x2), (3, .int x3), (4, .int x4), (5, .int x5)]) hx hb dmX13_makeStates_38 hl (by decide) rfl (fun ls hl => ?_)
          exact ih_2 x2 x3 x4 x5 0 0 r1 z5 H locs ls hr1 hM (lv_sub hl [2, 3, 4, 5, 6, 7, 1, 0] rfl) hq
      · intro x2 x3 x4 x5 x6 x7 r1 z H locs ls hr1 hM hl hq
        have hq : qm_X13_makeStates_2 K (q_X13_makeStates K k) x2 x3 x4 x5 x6 x7 r1 z = some z1 := hq
        unfold qm_X13_makeStates_2 at hq
        refine lv_iload hx hb dmX13_makeStates_40 (lv_at hl 7 rfl) ?_
        refine lv_aload_n hx hb dmX13_makeStates_42 rfl (lv_at hl 1 rfl) ?_
        refine mg13_44 hx hb hT hown hK hM hN hr1 hq dmX13_makeStates_43 (fun v6 hq => ?_)
        refine lv_icmp_ge (tgt := 86) hx hb dmX13_makeStates_46 (by decide) (fun hc => ?_) (fun hc => ?_)
        · have hq := tw_it hq hc
          refine lv_iconst (v := 0) hx hb dmX13_makeStates_86 (by decide) ?_
          refine lv_istore (lv' := [(7, .int 0), (0, .ref (u 0)), (1, .ref (u r1)), (2, .int x2), (3, .int x3), (4, .int x4), (5, .int x5), (6, .int x6)]) hx hb dmX13_makeStates_87 hl (by decide) rfl (fun ls hl => ?_)
          exact ih_4 x2 x3 x4 x5 x6 0 r1 z H locs ls hr1 hM (lv_sub hl [1, 2, 3, 4, 5, 6, 7, 0] rfl) hq
        · have hq := tw_if hq hc
          refine lv_aload_n hx hb dmX13_makeStates_49 rfl (lv_at hl 0 rfl) ?_
          refine mg13_199 hx hb hT hown hK hM dmX13_makeStates_50 ?_
          refine lv_iload hx hb dmX13_makeStates_53 (lv_at hl 7 rfl) ?_
          refine tw_iald mX_ok hx hb hK hM mr_47 hq dmX13_makeStates_55 (fun v7 hq => ?_)
          refine lv_iload hx hb dmX13_makeStates_56 (lv_at hl 7 rfl) ?_
          refine lv_icmp_ne (tgt := 80) hx hb dmX13_makeStates_58 (by decide) (fun hc => ?_) (fun hc => ?_)
          · have hq := tw_if hq hc
            exact ih_3 x2 x3 x4 x5 x6 x7 r1 z H locs ls hr1 hM (lv_sub hl [0, 1, 2, 3, 4, 5, 6, 7] rfl) hq
          · have hq := tw_it hq hc
            refine lv_aload_n hx hb dmX13_makeStates_61 rfl (lv_at hl 0 rfl) ?_
            refine mg13_286 hx hb hT hown hK hM dmX13_makeStates_62 ?_
            refine lv_bipush (v := 32) hx hb dmX13_makeStates_65 (by decide) ?_
            refine lv_iload hx hb dmX13_makeStates_67 (lv_at hl 5 rfl) ?_
            refine lv_imul hx hb dmX13_makeStates_69 ?_
            refine lv_iload hx hb dmX13_makeStates_70 (lv_at hl 7 rfl) ?_
            refine lv_iadd hx hb dmX13_makeStates_72 ?_
            refine lv_iload hx hb dmX13_makeStates_73 (lv_at hl 6 rfl) ?_
            refine lv_i2b hx hb dmX13_makeStates_75 rfl ?_
            refine tw_bast mX_ok hU hx hb hK hM mr_81 hq dmX13_makeStates_76 (fun z8 H locs hM hq => ?_)
            refine lv_iinc (v := (x6 + 1)) (lv' := [(6, .int (x6 + 1)), (0, .ref (u 0)), (1, .ref (u r1)), (2, .int x2), (3, .int x3), (4, .int x4), (5, .int x5), (7, .int x7)]) hx hb dmX13_makeStates_77 hl (k := 6) rfl rfl (by decide) rfl (fun ls hl => ?_)
            exact ih_3 x2 x3 x4 x5 (x6 + 1) x7 r1 z8 H locs ls hr1 hM (lv_sub hl [1, 2, 3, 4, 5, 6, 0, 7] rfl) hq
      · intro x2 x3 x4 x5 x6 x7 r1 z H locs ls hr1 hM hl hq
        have hq : qm_X13_makeStates_3 K (q_X13_makeStates K k) x2 x3 x4 x5 x6 x7 r1 z = some z1 := hq
        unfold qm_X13_makeStates_3 at hq
        refine lv_iinc (v := (x7 + 1)) (lv' := [(7, .int (x7 + 1)), (0, .ref (u 0)), (1, .ref (u r1)), (2, .int x2), (3, .int x3), (4, .int x4), (5, .int x5), (6, .int x6)]) hx hb dmX13_makeStates_80 hl (k := 7) rfl rfl (by decide) rfl (fun ls hl => ?_)
        refine lv_goto (tgt := 40) hx hb dmX13_makeStates_83 (by decide) ?_
        exact ih_2 x2 x3 x4 x5 x6 (x7 + 1) r1 z H locs ls hr1 hM (lv_sub hl [1, 2, 3, 4, 5, 6, 7, 0] rfl) hq
      · intro x2 x3 x4 x5 x6 x7 r1 z H locs ls hr1 hM hl hq
        have hq : qm_X13_makeStates_4 K (q_X13_makeStates K k) x2 x3 x4 x5 x6 x7 r1 z = some z1 := hq
        unfold qm_X13_makeStates_4 at hq
        refine lv_iload hx hb dmX13_makeStates_89 (lv_at hl 7 rfl) ?_
        refine lv_aload_n hx hb dmX13_makeStates_91 rfl (lv_at hl 1 rfl) ?_
        refine mg13_44 hx hb hT hown hK hM hN hr1 hq dmX13_makeStates_92 (fun v9 hq => ?_)
        refine lv_icmp_ge (tgt := 134) hx hb dmX13_makeStates_95 (by decide) (fun hc => ?_) (fun hc => ?_)
        · have hq := tw_it hq hc
          refine lv_aload_n hx hb dmX13_makeStates_134 rfl (lv_at hl 0 rfl) ?_
          refine mg13_289 hx hb hT hown hK hM dmX13_makeStates_135 ?_
          refine lv_iload hx hb dmX13_makeStates_138 (lv_at hl 5 rfl) ?_
          refine lv_iload hx hb dmX13_makeStates_140 (lv_at hl 6 rfl) ?_
          refine lv_iload_n hx hb dmX13_makeStates_142 rfl (lv_at hl 2 rfl) ?_
          refine lv_iadd hx hb dmX13_makeStates_143 ?_
          refine tw_iast mX_ok hU hx hb hK hM mr_82 hq dmX13_makeStates_144 (fun z10 H locs hM hq => ?_)
          refine lv_aload_n hx hb dmX13_makeStates_145 rfl (lv_at hl 0 rfl) ?_
          refine mg13_292 hx hb hT hown hK hM dmX13_makeStates_146 ?_
          refine lv_iload hx hb dmX13_makeStates_149 (lv_at hl 5 rfl) ?_
          refine lv_iload hx hb dmX13_makeStates_151 (lv_at hl 4 rfl) ?_
          refine tw_iast mX_ok hU hx hb hK hM mr_83 hq dmX13_makeStates_153 (fun z11 H locs hM hq => ?_)
          refine lv_iload hx hb dmX13_makeStates_154 (lv_at hl 4 rfl) ?_
          refine lv_iconst (v := 1) hx hb dmX13_makeStates_156 (by decide) ?_
          refine lv_iload hx hb dmX13_makeStates_157 (lv_at hl 6 rfl) ?_
          refine lv_iload_n hx hb dmX13_makeStates_159 rfl (lv_at hl 2 rfl) ?_
          refine lv_iadd hx hb dmX13_makeStates_160 ?_
          refine lv_ishl hx hb dmX13_makeStates_161 ?_
          refine lv_iadd hx hb dmX13_makeStates_162 ?_
          refine lv_istore (lv' := [(4, .int (x4 + ((1 : Int32) <<< (((x6 + x2) : Int32) &&& 31)))), (0, .ref (u 0)), (1, .ref (u r1)), (2, .int x2), (3, .int x3), (5, .int x5), (6, .int x6), (7, .int x7)]) hx hb dmX13_makeStates_163 hl (by decide) rfl (fun ls hl => ?_)
          refine lv_iinc (v := (x5 + 1)) (lv' := [(5, .int (x5 + 1)), (4, .int (x4 + ((1 : Int32) <<< (((x6 + x2) : Int32) &&& 31)))), (0, .ref (u 0)), (1, .ref (u r1)), (2, .int x2), (3, .int x3), (6, .int x6), (7, .int x7)]) hx hb dmX13_makeStates_165 hl (k := 5) rfl rfl (by decide) rfl (fun ls hl => ?_)
          refine lv_goto (tgt := 19) hx hb dmX13_makeStates_168 (by decide) ?_
          exact ih_1 x2 x3 (x4 + ((1 : Int32) <<< (((x6 + x2) : Int32) &&& 31))) (x5 + 1) 0 0 r1 z11 H locs ls hr1 hM (lv_sub hl [2, 3, 4, 5, 1, 0] rfl) hq
        · have hq := tw_if hq hc
          refine lv_aload_n hx hb dmX13_makeStates_98 rfl (lv_at hl 0 rfl) ?_
          refine mg13_286 hx hb hT hown hK hM dmX13_makeStates_99 ?_
          refine lv_bipush (v := 32) hx hb dmX13_makeStates_102 (by decide) ?_
          refine lv_iload hx hb dmX13_makeStates_104 (lv_at hl 5 rfl) ?_
          refine lv_imul hx hb dmX13_makeStates_106 ?_
          refine lv_iload hx hb dmX13_makeStates_107 (lv_at hl 7 rfl) ?_
          refine lv_iadd hx hb dmX13_makeStates_109 ?_
          refine lv_aload_n hx hb dmX13_makeStates_110 rfl (lv_at hl 0 rfl) ?_
          refine mg13_286 hx hb hT hown hK hM dmX13_makeStates_111 ?_
          refine lv_bipush (v := 32) hx hb dmX13_makeStates_114 (by decide) ?_
          refine lv_iload hx hb dmX13_makeStates_116 (lv_at hl 5 rfl) ?_
          refine lv_imul hx hb dmX13_makeStates_118 ?_
          refine lv_aload_n hx hb dmX13_makeStates_119 rfl (lv_at hl 0 rfl) ?_
          refine lv_iload hx hb dmX13_makeStates_120 (lv_at hl 7 rfl) ?_
          obtain ⟨v13, z12, hcq, hq⟩ := tw_cl1 hq
          refine tw_cali hM (va_runV (As := [.int x7]) (rest := [.int (32 * x5), .ref (u 81), .int ((32 * x5) + x7), .ref (u 81)]) ⟨hx, hb, hml, hown, hts⟩ (km_X13_root l D q u hU K x7 z z12 v13 hcq) (cwV 1 hts (tw_gV wM_good wq_292 wq_293 wq_294 wq_61 wq_291) rfl rfl rfl cd_X13_root ⟨(Nat.le_of_ble_eq_true rfl), (Nat.le_of_ble_eq_true rfl)⟩) (mw_preV hK hN hM mo_0 rfl) rfl rfl hl.1 rfl (lv_room (Nat.le_of_ble_eq_true rfl)) dmX13_makeStates_122 ⟨(Nat.le_of_ble_eq_true rfl), (Nat.le_of_ble_eq_true rfl)⟩) (fun H locs hM => ?_)
          refine lv_iadd hx hb dmX13_makeStates_125 ?_
          refine tw_bald mX_ok hx hb hK hM mr_81 hq dmX13_makeStates_126 (fun v14 hq => ?_)
          refine tw_bast mX_ok hU hx hb hK hM mr_81 hq dmX13_makeStates_127 (fun z15 H locs hM hq => ?_)
          refine lv_iinc (v := (x7 + 1)) (lv' := [(7, .int (x7 + 1)), (0, .ref (u 0)), (1, .ref (u r1)), (2, .int x2), (3, .int x3), (4, .int x4), (5, .int x5), (6, .int x6)]) hx hb dmX13_makeStates_128 hl (k := 7) rfl rfl (by decide) rfl (fun ls hl => ?_)
          refine lv_goto (tgt := 89) hx hb dmX13_makeStates_131 (by decide) ?_
          exact ih_4 x2 x3 x4 x5 x6 (x7 + 1) r1 z15 H locs ls hr1 hM (lv_sub hl [1, 2, 3, 4, 5, 6, 7, 0] rfl) hq
  exact (key K).1 0 0 0 0 0 0 r1 z s.heap [] ls hr1 hM (lv_sub hl [0, 1] rfl) hq
