theorem dmX13_visit_0 : decode cX13_visit 0 = .ok (.aload_n 0, 1) := dw_at cX13_visit_k0 (p := 0) rfl (by decide +kernel)
theorem dmX13_visit_1 : decode cX13_visit 1 = .ok (.iconst 0, 1) := dw_at cX13_visit_k0 (p := 1) rfl (by decide +kernel)
theorem dmX13_visit_2 : decode cX13_visit 2 = .ok (.putfield 1, 3) := dw_at cX13_visit_k0 (p := 2) rfl (by decide +kernel)
theorem dmX13_visit_5 : decode cX13_visit 5 = .ok (.aload_n 0, 1) := dw_at cX13_visit_k0 (p := 5) rfl (by decide +kernel)
theorem dmX13_visit_6 : decode cX13_visit 6 = .ok (.iload_n 1, 1) := dw_at cX13_visit_k0 (p := 6) rfl (by decide +kernel)
theorem dmX13_visit_7 : decode cX13_visit 7 = .ok (.invokevirtual 423, 3) := dw_at cX13_visit_k0 (p := 7) rfl (by decide +kernel)
theorem dmX13_visit_10 : decode cX13_visit 10 = .ok (.ifCond .ne 9, 3) := dw_at cX13_visit_k0 (p := 10) rfl (by decide +kernel)
theorem dmX13_visit_13 : decode cX13_visit 13 = .ok (.aload_n 0, 1) := dw_at cX13_visit_k0 (p := 13) rfl (by decide +kernel)
theorem dmX13_visit_14 : decode cX13_visit 14 = .ok (.iconst 1, 1) := dw_at cX13_visit_k0 (p := 14) rfl (by decide +kernel)
theorem dmX13_visit_15 : decode cX13_visit 15 = .ok (.invokevirtual 403, 3) := dw_at cX13_visit_k0 (p := 15) rfl (by decide +kernel)
theorem dmX13_visit_18 : decode cX13_visit 18 = .ok (.ireturn, 1) := dw_at cX13_visit_k0 (p := 18) rfl (by decide +kernel)
theorem dmX13_visit_19 : decode cX13_visit 19 = .ok (.aload_n 0, 1) := dw_at cX13_visit_k0 (p := 19) rfl (by decide +kernel)
theorem dmX13_visit_20 : decode cX13_visit 20 = .ok (.iload_n 1, 1) := dw_at cX13_visit_k0 (p := 20) rfl (by decide +kernel)
theorem dmX13_visit_21 : decode cX13_visit 21 = .ok (.aload_n 0, 1) := dw_at cX13_visit_k0 (p := 21) rfl (by decide +kernel)
theorem dmX13_visit_22 : decode cX13_visit 22 = .ok (.getfield 114, 3) := dw_at cX13_visit_k0 (p := 22) rfl (by decide +kernel)
theorem dmX13_visit_25 : decode cX13_visit 25 = .ok (.invokevirtual 434, 3) := dw_at cX13_visit_k1 (p := 0) rfl (by decide +kernel)
theorem dmX13_visit_28 : decode cX13_visit 28 = .ok (.iload_n 2, 1) := dw_at cX13_visit_k1 (p := 3) rfl (by decide +kernel)
theorem dmX13_visit_29 : decode cX13_visit 29 = .ok (.ifCond .lt 14, 3) := dw_at cX13_visit_k1 (p := 4) rfl (by decide +kernel)
theorem dmX13_visit_32 : decode cX13_visit 32 = .ok (.iload_n 2, 1) := dw_at cX13_visit_k1 (p := 7) rfl (by decide +kernel)
theorem dmX13_visit_33 : decode cX13_visit 33 = .ok (.aload_n 0, 1) := dw_at cX13_visit_k1 (p := 8) rfl (by decide +kernel)
theorem dmX13_visit_34 : decode cX13_visit 34 = .ok (.getfield 114, 3) := dw_at cX13_visit_k1 (p := 9) rfl (by decide +kernel)
theorem dmX13_visit_37 : decode cX13_visit 37 = .ok (.getfield 44, 3) := dw_at cX13_visit_k1 (p := 12) rfl (by decide +kernel)
theorem dmX13_visit_40 : decode cX13_visit 40 = .ok (.if_icmp .lt 9, 3) := dw_at cX13_visit_k1 (p := 15) rfl (by decide +kernel)
theorem dmX13_visit_43 : decode cX13_visit 43 = .ok (.aload_n 0, 1) := dw_at cX13_visit_k1 (p := 18) rfl (by decide +kernel)
theorem dmX13_visit_44 : decode cX13_visit 44 = .ok (.iconst 1, 1) := dw_at cX13_visit_k1 (p := 19) rfl (by decide +kernel)
theorem dmX13_visit_45 : decode cX13_visit 45 = .ok (.invokevirtual 403, 3) := dw_at cX13_visit_k1 (p := 20) rfl (by decide +kernel)
theorem dmX13_visit_48 : decode cX13_visit 48 = .ok (.ireturn, 1) := dw_at cX13_visit_k1 (p := 23) rfl (by decide +kernel)
theorem dmX13_visit_49 : decode cX13_visit 49 = .ok (.iload_n 3, 1) := dw_at cX13_visit_k2 (p := 0) rfl (by decide +kernel)
theorem dmX13_visit_50 : decode cX13_visit 50 = .ok (.tableswitch 78 0 3 #[30, 40, 50, 60], 30) := by decide +kernel
theorem dmX13_visit_80 : decode cX13_visit 80 = .ok (.aload_n 0, 1) := dw_at cX13_visit_k3 (p := 0) rfl (by decide +kernel)
theorem dmX13_visit_81 : decode cX13_visit 81 = .ok (.getfield 114, 3) := dw_at cX13_visit_k3 (p := 1) rfl (by decide +kernel)
theorem dmX13_visit_84 : decode cX13_visit 84 = .ok (.getfield 18, 3) := dw_at cX13_visit_k3 (p := 4) rfl (by decide +kernel)
theorem dmX13_visit_87 : decode cX13_visit 87 = .ok (.iload_n 2, 1) := dw_at cX13_visit_k3 (p := 7) rfl (by decide +kernel)
theorem dmX13_visit_88 : decode cX13_visit 88 = .ok (.iaload, 1) := dw_at cX13_visit_k3 (p := 8) rfl (by decide +kernel)
theorem dmX13_visit_89 : decode cX13_visit 89 = .ok (.ireturn, 1) := dw_at cX13_visit_k3 (p := 9) rfl (by decide +kernel)
theorem dmX13_visit_90 : decode cX13_visit 90 = .ok (.aload_n 0, 1) := dw_at cX13_visit_k3 (p := 10) rfl (by decide +kernel)
theorem dmX13_visit_91 : decode cX13_visit 91 = .ok (.getfield 114, 3) := dw_at cX13_visit_k3 (p := 11) rfl (by decide +kernel)
theorem dmX13_visit_94 : decode cX13_visit 94 = .ok (.getfield 23, 3) := dw_at cX13_visit_k3 (p := 14) rfl (by decide +kernel)
theorem dmX13_visit_97 : decode cX13_visit 97 = .ok (.iload_n 2, 1) := dw_at cX13_visit_k3 (p := 17) rfl (by decide +kernel)
theorem dmX13_visit_98 : decode cX13_visit 98 = .ok (.iaload, 1) := dw_at cX13_visit_k3 (p := 18) rfl (by decide +kernel)
theorem dmX13_visit_99 : decode cX13_visit 99 = .ok (.ireturn, 1) := dw_at cX13_visit_k3 (p := 19) rfl (by decide +kernel)
theorem dmX13_visit_100 : decode cX13_visit 100 = .ok (.aload_n 0, 1) := dw_at cX13_visit_k3 (p := 20) rfl (by decide +kernel)
theorem dmX13_visit_101 : decode cX13_visit 101 = .ok (.getfield 114, 3) := dw_at cX13_visit_k3 (p := 21) rfl (by decide +kernel)
theorem dmX13_visit_104 : decode cX13_visit 104 = .ok (.getfield 32, 3) := dw_at cX13_visit_k4 (p := 0) rfl (by decide +kernel)
theorem dmX13_visit_107 : decode cX13_visit 107 = .ok (.iload_n 2, 1) := dw_at cX13_visit_k4 (p := 3) rfl (by decide +kernel)
theorem dmX13_visit_108 : decode cX13_visit 108 = .ok (.iaload, 1) := dw_at cX13_visit_k4 (p := 4) rfl (by decide +kernel)
theorem dmX13_visit_109 : decode cX13_visit 109 = .ok (.ireturn, 1) := dw_at cX13_visit_k4 (p := 5) rfl (by decide +kernel)
theorem dmX13_visit_110 : decode cX13_visit 110 = .ok (.aload_n 0, 1) := dw_at cX13_visit_k4 (p := 6) rfl (by decide +kernel)
theorem dmX13_visit_111 : decode cX13_visit 111 = .ok (.getfield 114, 3) := dw_at cX13_visit_k4 (p := 7) rfl (by decide +kernel)
theorem dmX13_visit_114 : decode cX13_visit 114 = .ok (.getfield 35, 3) := dw_at cX13_visit_k4 (p := 10) rfl (by decide +kernel)
theorem dmX13_visit_117 : decode cX13_visit 117 = .ok (.aload_n 0, 1) := dw_at cX13_visit_k4 (p := 13) rfl (by decide +kernel)
theorem dmX13_visit_118 : decode cX13_visit 118 = .ok (.getfield 114, 3) := dw_at cX13_visit_k4 (p := 14) rfl (by decide +kernel)
theorem dmX13_visit_121 : decode cX13_visit 121 = .ok (.getfield 23, 3) := dw_at cX13_visit_k4 (p := 17) rfl (by decide +kernel)
theorem dmX13_visit_124 : decode cX13_visit 124 = .ok (.iload_n 2, 1) := dw_at cX13_visit_k4 (p := 20) rfl (by decide +kernel)
theorem dmX13_visit_125 : decode cX13_visit 125 = .ok (.iaload, 1) := dw_at cX13_visit_k4 (p := 21) rfl (by decide +kernel)
theorem dmX13_visit_126 : decode cX13_visit 126 = .ok (.iaload, 1) := dw_at cX13_visit_k4 (p := 22) rfl (by decide +kernel)
theorem dmX13_visit_127 : decode cX13_visit 127 = .ok (.ireturn, 1) := dw_at cX13_visit_k4 (p := 23) rfl (by decide +kernel)
theorem dmX13_visit_128 : decode cX13_visit 128 = .ok (.aload_n 0, 1) := dw_at cX13_visit_k4 (p := 24) rfl (by decide +kernel)
theorem dmX13_visit_129 : decode cX13_visit 129 = .ok (.iconst 2, 1) := dw_at cX13_visit_k4 (p := 25) rfl (by decide +kernel)
theorem dmX13_visit_130 : decode cX13_visit 130 = .ok (.invokevirtual 403, 3) := dw_at cX13_visit_k4 (p := 26) rfl (by decide +kernel)
theorem dmX13_visit_133 : decode cX13_visit 133 = .ok (.ireturn, 1) := dw_at cX13_visit_k4 (p := 29) rfl (by decide +kernel)
def qm_X13_visit_0 (K : Nat) (go : Nat → Int32 → Int32 → Int32 → ow_MS → Option (Int32 × ow_MS)) (x1 : Int32) (x2 : Int32) (x3 : Int32) (z : ow_MS) : Option (Int32 × ow_MS) :=
 wrF z 1 0 fun z1 => cs1 (qe_X13_has K x1 z1) fun v3 z2 => (if v3 = 0 then cs1 (qe_X13_fails K 1 z2) fun v14 z13 => some (v14, z13)
 else cs0 (qe_X13_open K x1 1000 z2) fun z4 => (if x2 < 0 then go 1 x1 x2 x3 z4
 else rdF z4 (1000 + 1) fun v5 => (if x2 < v5 then (if x3.toInt < 0 ∨ 3 < x3.toInt then cs1 (qe_X13_fails K 2 z4) fun v7 z6 => some (v7, z6)
 else (if x3 = 0 then rdI mX z4 (1000 + 8) x2 fun v8 => some (v8, z4)
 else (if x3 = 1 then rdI mX z4 (1000 + 4) x2 fun v9 => some (v9, z4)
 else (if x3 = 2 then rdI mX z4 (1000 + 5) x2 fun v10 => some (v10, z4)
 else (if x3 = 3 then rdI mX z4 (1000 + 4) x2 fun v11 => rdI mX z4 (1000 + 6) v11 fun v12 => some (v12, z4)
 else none)))))
 else go 1 x1 x2 x3 z4)))
def qm_X13_visit_1 (K : Nat) (go : Nat → Int32 → Int32 → Int32 → ow_MS → Option (Int32 × ow_MS)) (x1 : Int32) (x2 : Int32) (x3 : Int32) (z : ow_MS) : Option (Int32 × ow_MS) :=
 cs1 (qe_X13_fails K 1 z) fun v16 z15 => some (v16, z15)
def qb_X13_visit (K : Nat) (go : Nat → Int32 → Int32 → Int32 → ow_MS → Option (Int32 × ow_MS)) (L : Nat) (x1 : Int32) (x2 : Int32) (x3 : Int32) (z : ow_MS) : Option (Int32 × ow_MS) := match L with
  | 0 => qm_X13_visit_0 K go x1 x2 x3 z
  | 1 => qm_X13_visit_1 K go x1 x2 x3 z
  | _ => none
def q_X13_visit (K : Nat) : Nat → Nat → Int32 → Int32 → Int32 → ow_MS → Option (Int32 × ow_MS)
  | 0 => fun _ _ _ _ _ => none
  | k + 1 => qb_X13_visit K (q_X13_visit K k)
def qe_X13_visit (K : Nat) (x1 : Int32) (x2 : Int32) (x3 : Int32) (z : ow_MS) : Option (Int32 × ow_MS) := q_X13_visit K K 0 x1 x2 x3 z
abbrev wm_X13_visit : List Cond := .code yX13_visit cX13_visit 4 (some .int) :: wM
theorem cd_X13_visit : yX13_visit.cls = RX13 ∧ yX13_visit.cls ≠ "java/lang/invoke/MethodHandle" ∧ yX13_visit.cls ≠ "java/lang/invoke/VarHandle" ∧ (parseMethodDescriptor yX13_visit.desc).map (fun d => d.parameters.length) = some 3 := by decide +kernel
set_option maxHeartbeats 4000000 in
set_option maxRecDepth 100000 in
theorem km_X13_visit (l : Launch) (D : va_G) (q : ow_Q5) (u : Nat → Nat) (hU : tw_inj mX u) (K : Nat) (x1 : Int32) (x2 : Int32) (x3 : Int32)  (z z1 : ow_MS) (r : Int32) (hq : qe_X13_visit K x1 x2 x3 z = some (r, z1)) : Met l yX13_visit wm_X13_visit ({ frames := 3, cells := 0, slots := 0, locals := 68 } : Room) (va_Pc [.ref (u 0), .int x1, .int x2, .int x3] (mw_pre D q u z)) (va_Qi (fun x (_ : Unit) => x = r) (fun _ t => va_P D vwCl (tw mX q u z1) t.heap) (tw_A mX u)) 0 0 (tw_A mX u) := by
  refine Met.ofW (cc := cX13_visit) (maxL := 4) (ret := (some .int)) (by decide) rfl ?_
  intro p e s m args below meth c s₁ B hml hv
  obtain ⟨rfl, hP, hK, hN⟩ := hv
  have hx := B.exec
  have hb := B.bytes
  have hr := B.returns
  have hts := atoms_spec (ws := wm_X13_visit) B.pre
  have hT : ∀ w ∈ wM, w.before ([.ref (u 0), .int x1, .int x2, .int x3] : List Value).toArray s = true := fun w h => hts w (List.mem_cons_of_mem _ h)
  have hown : s.vm.findClass RX13 = some m.cls := findClass_of_methodNamed B.named
  have hlocks := B.notSynchronized
  have hM : tw_M D vwCl mX q s.heap u z s.heap [] := ⟨hP, va_S.rf⟩
  have hl := lv_entry ([.ref (u 0), .int x1, .int x2, .int x3]) (n := 4) (Nat.le_of_ble_eq_true rfl)
  rw [lg_entry_eq]
  generalize (lg_sl ([.ref (u 0), .int x1, .int x2, .int x3]) ++ List.replicate (4 - (lg_sl ([.ref (u 0), .int x1, .int x2, .int x3])).length) Slot.unset).toArray = ls at hl ⊢
  have hl : lv_has ls 4 [(0, .ref (u 0)), (1, .int x1), (2, .int x2), (3, .int x3)] := hl
  refine ow_named (fun QQ hQQ => ?_)
  generalize ([.ref (u 0), .int x1, .int x2, .int x3] : List Value).toArray = args at hts hT hQQ ⊢
  have key : ∀ k : Nat, (∀ (x1 : Int32) (x2 : Int32) (x3 : Int32) (z : ow_MS) (H : Heap) (locs : List Loc) (ls : Array Slot), tw_M D vwCl mX q s.heap u z H locs → lv_has ls 4 [(0, .ref (u 0)), (1, .int x1), (2, .int x2), (3, .int x3)] → q_X13_visit K k 0 x1 x2 x3 z = some (r, z1) → W p l e ({ frames := 3, cells := 0, slots := 0, locals := 68 } : Room) s m args below meth c H locs 0 0 QQ (F0 m 0 ls [])) ∧ (∀ (x1 : Int32) (x2 : Int32) (x3 : Int32) (z : ow_MS) (H : Heap) (locs : List Loc) (ls : Array Slot), tw_M D vwCl mX q s.heap u z H locs → lv_has ls 4 [(0, .ref (u 0)), (1, .int x1), (2, .int x2), (3, .int x3)] → q_X13_visit K k 1 x1 x2 x3 z = some (r, z1) → W p l e ({ frames := 3, cells := 0, slots := 0, locals := 68 } : Room) s m args below meth c H locs 0 0 QQ (F0 m 43 ls [])) := by
    intro k
    induction k with
    | zero => exact ⟨fun _ _ _ _ _ _ _  _ _ hq => tw_no hq, fun _ _ _ _ _ _ _  _ _ hq => tw_no hq⟩
    | succ k ih =>
      obtain ⟨ih_0, ih_1⟩ := ih
      refine ⟨?_, ?_⟩
      · intro x1 x2 x3 z H locs ls  hM hl hq
        have hq : qm_X13_visit_0 K (q_X13_visit K k) x1 x2 x3 z = some (r, z1) := hq
        unfold qm_X13_visit_0 at hq
        refine lv_aload_n hx hb dmX13_visit_0 rfl (lv_at hl 0 rfl) ?_
        refine lv_iconst (v := 0) hx hb dmX13_visit_1 (by decide) ?_
        refine mp13_1 hx hb hT hown hK hM hU hq dmX13_visit_2 (fun z1 H locs hM hq => ?_)
        refine lv_aload_n hx hb dmX13_visit_5 rfl (lv_at hl 0 rfl) ?_
        refine lv_iload_n hx hb dmX13_visit_6 rfl (lv_at hl 1 rfl) ?_
        obtain ⟨v3, z2, hcq, hq⟩ := tw_cl1 hq
        refine tw_cali hM (va_runV (As := [.int x1]) (rest := []) ⟨hx, hb, hml, hown, hts⟩ (km_X13_has l D q u hU K x1 z1 z2 v3 hcq) (cwV 1 hts (tw_gV wM_good wq_127 wq_128 wq_129 wq_61 wq_90) rfl rfl rfl cd_X13_has ⟨(Nat.le_of_ble_eq_true rfl), (Nat.le_of_ble_eq_true rfl)⟩) (mw_preV hK hN hM mo_0 rfl) rfl rfl hl.1 rfl (lv_room (Nat.le_of_ble_eq_true rfl)) dmX13_visit_7 ⟨(Nat.le_of_ble_eq_true rfl), (Nat.le_of_ble_eq_true rfl)⟩) (fun H locs hM => ?_)
        refine lv_if_ne (tgt := 19) hx hb dmX13_visit_10 (by decide) (fun hc => ?_) (fun hc => ?_)
        · have hq := tw_if hq hc
          refine lv_aload_n hx hb dmX13_visit_19 rfl (lv_at hl 0 rfl) ?_
          refine lv_iload_n hx hb dmX13_visit_20 rfl (lv_at hl 1 rfl) ?_
          refine lv_aload_n hx hb dmX13_visit_21 rfl (lv_at hl 0 rfl) ?_
          refine mg13_114 hx hb hT hown hK hM dmX13_visit_22 ?_
          obtain ⟨z4, hcq, hq⟩ := tw_cl0 hq
          refine tw_calv hM (va_runV (As := [.int x1, .ref (u 1000)]) (rest := []) ⟨hx, hb, hml, hown, hts⟩ (km_X13_open l D q u hU K x1 1000 mw_n1 z2 z4 hcq) (cwV 2 hts (tw_gV wM_good wq_138 wq_139 wq_140 wq_61 wq_136) rfl rfl rfl cd_X13_open ⟨(Nat.le_of_ble_eq_true rfl), (Nat.le_of_ble_eq_true rfl)⟩) (mw_preV hK hN hM mo_0 rfl) rfl rfl hl.1 rfl (lv_room (Nat.le_of_ble_eq_true rfl)) dmX13_visit_25 ⟨(Nat.le_of_ble_eq_true rfl), (Nat.le_of_ble_eq_true rfl)⟩) (fun H locs hM => ?_)
          refine lv_iload_n hx hb dmX13_visit_28 rfl (lv_at hl 2 rfl) ?_
          refine lv_if_lt (tgt := 43) hx hb dmX13_visit_29 (by decide) (fun hc => ?_) (fun hc => ?_)
          · have hq := tw_it hq hc
            exact ih_1 x1 x2 x3 z4 H locs ls hM (lv_sub hl [0, 1, 2, 3] rfl) hq
          · have hq := tw_if hq hc
            refine lv_iload_n hx hb dmX13_visit_32 rfl (lv_at hl 2 rfl) ?_
            refine lv_aload_n hx hb dmX13_visit_33 rfl (lv_at hl 0 rfl) ?_
            refine mg13_114 hx hb hT hown hK hM dmX13_visit_34 ?_
            refine mg13_44 hx hb hT hown hK hM hN mw_n1 hq dmX13_visit_37 (fun v5 hq => ?_)
            refine lv_icmp_lt (tgt := 49) hx hb dmX13_visit_40 (by decide) (fun hc => ?_) (fun hc => ?_)
            · have hq := tw_it hq hc
              refine lv_iload_n hx hb dmX13_visit_49 rfl (lv_at hl 3 rfl) ?_
              by_cases hc : x3.toInt < 0 ∨ 3 < x3.toInt
              · have hq := tw_it hq hc
                refine lv_tableOut (tgt := 128) hx hb dmX13_visit_50 hc (by decide) ?_
                refine lv_aload_n hx hb dmX13_visit_128 rfl (lv_at hl 0 rfl) ?_
                refine lv_iconst (v := 2) hx hb dmX13_visit_129 (by decide) ?_
                obtain ⟨v7, z6, hcq, hq⟩ := tw_cl1 hq
                refine tw_cali hM (va_runV (As := [.int 2]) (rest := []) ⟨hx, hb, hml, hown, hts⟩ (km_X13_fails l D q u hU K 2 z4 z6 v7 hcq) (cwV 1 hts (tw_gV wM_good wq_103 wq_104 wq_105 wq_61 wq_50) rfl rfl rfl cd_X13_fails ⟨(Nat.le_of_ble_eq_true rfl), (Nat.le_of_ble_eq_true rfl)⟩) (mw_preV hK hN hM mo_0 rfl) rfl rfl hl.1 rfl (lv_room (Nat.le_of_ble_eq_true rfl)) dmX13_visit_130 ⟨(Nat.le_of_ble_eq_true rfl), (Nat.le_of_ble_eq_true rfl)⟩) (fun H locs hM => ?_)
                exact mw_iret hx hb hr hlocks hM hq hQQ dmX13_visit_133
              · have hq := tw_if hq hc
                by_cases hc : x3 = 0
                · have hq := tw_it hq hc
                  refine ow_topi (y := 0) hc ?_
                  refine lv_tableIn (x := 0) (tgt := 80) hx hb dmX13_visit_50 (by decide) (by decide) rfl (by decide) ?_
                  refine lv_aload_n hx hb dmX13_visit_80 rfl (lv_at hl 0 rfl) ?_
                  refine mg13_114 hx hb hT hown hK hM dmX13_visit_81 ?_
                  refine mg13_18 hx hb hT hown hK hM hN mw_n1 dmX13_visit_84 ?_
                  refine lv_iload_n hx hb dmX13_visit_87 rfl (lv_at hl 2 rfl) ?_
                  refine tw_iald mX_ok hx hb hK hM (mrn_8 mw_n1) hq dmX13_visit_88 (fun v8 hq => ?_)
                  exact mw_iret hx hb hr hlocks hM hq hQQ dmX13_visit_89
                · have hq := tw_if hq hc
                  by_cases hc : x3 = 1
                  · have hq := tw_it hq hc
                    refine ow_topi (y := 1) hc ?_
                    refine lv_tableIn (x := 1) (tgt := 90) hx hb dmX13_visit_50 (by decide) (by decide) rfl (by decide) ?_
                    refine lv_aload_n hx hb dmX13_visit_90 rfl (lv_at hl 0 rfl) ?_
                    refine mg13_114 hx hb hT hown hK hM dmX13_visit_91 ?_
                    refine mg13_23 hx hb hT hown hK hM hN mw_n1 dmX13_visit_94 ?_
                    refine lv_iload_n hx hb dmX13_visit_97 rfl (lv_at hl 2 rfl) ?_
                    refine tw_iald mX_ok hx hb hK hM (mrn_4 mw_n1) hq dmX13_visit_98 (fun v9 hq => ?_)
                    exact mw_iret hx hb hr hlocks hM hq hQQ dmX13_visit_99
                  · have hq := tw_if hq hc
                    by_cases hc : x3 = 2
                    · have hq := tw_it hq hc
                      refine ow_topi (y := 2) hc ?_
                      refine lv_tableIn (x := 2) (tgt := 100) hx hb dmX13_visit_50 (by decide) (by decide) rfl (by decide) ?_
                      refine lv_aload_n hx hb dmX13_visit_100 rfl (lv_at hl 0 rfl) ?_
                      refine mg13_114 hx hb hT hown hK hM dmX13_visit_101 ?_
                      refine mg13_32 hx hb hT hown hK hM hN mw_n1 dmX13_visit_104 ?_
                      refine lv_iload_n hx hb dmX13_visit_107 rfl (lv_at hl 2 rfl) ?_
                      refine tw_iald mX_ok hx hb hK hM (mrn_5 mw_n1) hq dmX13_visit_108 (fun v10 hq => ?_)
                      exact mw_iret hx hb hr hlocks hM hq hQQ dmX13_visit_109
                    · have hq := tw_if hq hc
                      by_cases hc : x3 = 3
                      · have hq := tw_it hq hc
                        refine ow_topi (y := 3) hc ?_
                        refine lv_tableIn (x := 3) (tgt := 110) hx hb dmX13_visit_50 (by decide) (by decide) rfl (by decide) ?_
                        refine lv_aload_n hx hb dmX13_visit_110 rfl (lv_at hl 0 rfl) ?_
                        refine mg13_114 hx hb hT hown hK hM dmX13_visit_111 ?_
                        refine mg13_35 hx hb hT hown hK hM hN mw_n1 dmX13_visit_114 ?_
                        refine lv_aload_n hx hb dmX13_visit_117 rfl (lv_at hl 0 rfl) ?_
                        refine mg13_114 hx hb hT hown hK hM dmX13_visit_118 ?_
                        refine mg13_23 hx hb hT hown hK hM hN mw_n1 dmX13_visit_121 ?_
                        refine lv_iload_n hx hb dmX13_visit_124 rfl (lv_at hl 2 rfl) ?_
                        refine tw_iald mX_ok hx hb hK hM (mrn_4 mw_n1) hq dmX13_visit_125 (fun v11 hq => ?_)
                        refine tw_iald mX_ok hx hb hK hM (mrn_6 mw_n1) hq dmX13_visit_126 (fun v12 hq => ?_)
                        exact mw_iret hx hb hr hlocks hM hq hQQ dmX13_visit_127
                      · have hq := tw_if hq hc
                        cases hq
            · have hq := tw_if hq hc
              exact ih_1 x1 x2 x3 z4 H locs ls hM (lv_sub hl [0, 1, 2, 3] rfl) hq
        · have hq := tw_it hq hc
          refine lv_aload_n hx hb dmX13_visit_13 rfl (lv_at hl 0 rfl) ?_
          refine lv_iconst (v := 1) hx hb dmX13_visit_14 (by decide) ?_
          obtain ⟨v14, z13, hcq, hq⟩ := tw_cl1 hq
          refine tw_cali hM (va_runV (As := [.int 1]) (rest := []) ⟨hx, hb, hml, hown, hts⟩ (km_X13_fails l D q u hU K 1 z2 z13 v14 hcq) (cwV 1 hts (tw_gV wM_good wq_103 wq_104 wq_105 wq_61 wq_50) rfl rfl rfl cd_X13_fails ⟨(Nat.le_of_ble_eq_true rfl), (Nat.le_of_ble_eq_true rfl)⟩) (mw_preV hK hN hM mo_0 rfl) rfl rfl hl.1 rfl (lv_room (Nat.le_of_ble_eq_true rfl)) dmX13_visit_15 ⟨(Nat.le_of_ble_eq_true rfl), (Nat.le_of_ble_eq_true rfl)⟩) (fun H locs hM => ?_)
          exact mw_iret hx hb hr hlocks hM hq hQQ dmX13_visit_18
      · intro x1 x2 x3 z H locs ls  hM hl hq
        have hq : qm_X13_visit_1 K (q_X13_visit K k) x1 x2 x3 z = some (r, z1) := hq
        unfold qm_X13_visit_1 at hq
        refine lv_aload_n hx hb dmX13_visit_43 rfl (lv_at hl 0 rfl) ?_
        refine lv_iconst (v := 1) hx hb dmX13_visit_44 (by decide) ?_
        obtain ⟨v16, z15, hcq, hq⟩ := tw_cl1 hq
        refine tw_cali hM (va_runV (As := [.int 1]) (rest := []) ⟨hx, hb, hml, hown, hts⟩ (km_X13_fails l D q u hU K 1 z z15 v16 hcq) (cwV 1 hts (tw_gV wM_good wq_103 wq_104 wq_105 wq_61 wq_50) rfl rfl rfl cd_X13_fails ⟨(Nat.le_of_ble_eq_true rfl), (Nat.le_of_ble_eq_true rfl)⟩) (mw_preV hK hN hM mo_0 rfl) rfl rfl hl.1 rfl (lv_room (Nat.le_of_ble_eq_true rfl)) dmX13_visit_45 ⟨(Nat.le_of_ble_eq_true rfl), (Nat.le_of_ble_eq_true rfl)⟩) (fun H locs hM => ?_)
        exact mw_iret hx hb hr hlocks hM hq hQQ dmX13_visit_48
  exact (key K).1 x1 x2 x3 z s.heap [] ls  hM (lv_sub hl [0, 1, 2, 3] rfl) hq
theorem dmX13_linking_0 : decode cX13_linking 0 = .ok (.aload_n 0, 1) := dw_at cX13_linking_k0 (p := 0) rfl (by decide +kernel)
theorem dmX13_linking_1 : decode cX13_linking 1 = .ok (.iconst 0, 1) := dw_at cX13_linking_k0 (p := 1) rfl (by decide +kernel)
theorem dmX13_linking_2 : decode cX13_linking 2 = .ok (.putfield 1, 3) := dw_at cX13_linking_k0 (p := 2) rfl (by decide +kernel)
theorem dmX13_linking_5 : decode cX13_linking 5 = .ok (.aload_n 0, 1) := dw_at cX13_linking_k0 (p := 5) rfl (by decide +kernel)
theorem dmX13_linking_6 : decode cX13_linking 6 = .ok (.iload_n 1, 1) := dw_at cX13_linking_k0 (p := 6) rfl (by decide +kernel)
theorem dmX13_linking_7 : decode cX13_linking 7 = .ok (.invokevirtual 423, 3) := dw_at cX13_linking_k0 (p := 7) rfl (by decide +kernel)
theorem dmX13_linking_10 : decode cX13_linking 10 = .ok (.ifCond .ne 9, 3) := dw_at cX13_linking_k0 (p := 10) rfl (by decide +kernel)
theorem dmX13_linking_13 : decode cX13_linking 13 = .ok (.aload_n 0, 1) := dw_at cX13_linking_k0 (p := 13) rfl (by decide +kernel)
theorem dmX13_linking_14 : decode cX13_linking 14 = .ok (.iconst 1, 1) := dw_at cX13_linking_k0 (p := 14) rfl (by decide +kernel)
theorem dmX13_linking_15 : decode cX13_linking 15 = .ok (.invokevirtual 403, 3) := dw_at cX13_linking_k0 (p := 15) rfl (by decide +kernel)
theorem dmX13_linking_18 : decode cX13_linking 18 = .ok (.ireturn, 1) := dw_at cX13_linking_k0 (p := 18) rfl (by decide +kernel)
theorem dmX13_linking_19 : decode cX13_linking 19 = .ok (.aload_n 0, 1) := dw_at cX13_linking_k0 (p := 19) rfl (by decide +kernel)
theorem dmX13_linking_20 : decode cX13_linking 20 = .ok (.iload_n 1, 1) := dw_at cX13_linking_k0 (p := 20) rfl (by decide +kernel)
theorem dmX13_linking_21 : decode cX13_linking 21 = .ok (.aload_n 0, 1) := dw_at cX13_linking_k0 (p := 21) rfl (by decide +kernel)
theorem dmX13_linking_22 : decode cX13_linking 22 = .ok (.getfield 114, 3) := dw_at cX13_linking_k0 (p := 22) rfl (by decide +kernel)
theorem dmX13_linking_25 : decode cX13_linking 25 = .ok (.invokevirtual 434, 3) := dw_at cX13_linking_k1 (p := 0) rfl (by decide +kernel)
theorem dmX13_linking_28 : decode cX13_linking 28 = .ok (.iload_n 2, 1) := dw_at cX13_linking_k1 (p := 3) rfl (by decide +kernel)
theorem dmX13_linking_29 : decode cX13_linking 29 = .ok (.ifCond .lt 29, 3) := dw_at cX13_linking_k1 (p := 4) rfl (by decide +kernel)
theorem dmX13_linking_32 : decode cX13_linking 32 = .ok (.iload_n 2, 1) := dw_at cX13_linking_k1 (p := 7) rfl (by decide +kernel)
theorem dmX13_linking_33 : decode cX13_linking 33 = .ok (.aload_n 0, 1) := dw_at cX13_linking_k1 (p := 8) rfl (by decide +kernel)
theorem dmX13_linking_34 : decode cX13_linking 34 = .ok (.getfield 114, 3) := dw_at cX13_linking_k1 (p := 9) rfl (by decide +kernel)
theorem dmX13_linking_37 : decode cX13_linking 37 = .ok (.getfield 407, 3) := dw_at cX13_linking_k1 (p := 12) rfl (by decide +kernel)
theorem dmX13_linking_40 : decode cX13_linking 40 = .ok (.if_icmp .ge 18, 3) := dw_at cX13_linking_k1 (p := 15) rfl (by decide +kernel)
theorem dmX13_linking_43 : decode cX13_linking 43 = .ok (.iload_n 3, 1) := dw_at cX13_linking_k1 (p := 18) rfl (by decide +kernel)
theorem dmX13_linking_44 : decode cX13_linking 44 = .ok (.ifCond .lt 14, 3) := dw_at cX13_linking_k1 (p := 19) rfl (by decide +kernel)
theorem dmX13_linking_47 : decode cX13_linking 47 = .ok (.iload_n 3, 1) := dw_at cX13_linking_k1 (p := 22) rfl (by decide +kernel)
theorem dmX13_linking_48 : decode cX13_linking 48 = .ok (.aload_n 0, 1) := dw_at cX13_linking_k1 (p := 23) rfl (by decide +kernel)
theorem dmX13_linking_49 : decode cX13_linking 49 = .ok (.getfield 114, 3) := dw_at cX13_linking_k2 (p := 0) rfl (by decide +kernel)
theorem dmX13_linking_52 : decode cX13_linking 52 = .ok (.getfield 407, 3) := dw_at cX13_linking_k2 (p := 3) rfl (by decide +kernel)
theorem dmX13_linking_55 : decode cX13_linking 55 = .ok (.if_icmp .lt 9, 3) := dw_at cX13_linking_k2 (p := 6) rfl (by decide +kernel)
theorem dmX13_linking_58 : decode cX13_linking 58 = .ok (.aload_n 0, 1) := dw_at cX13_linking_k2 (p := 9) rfl (by decide +kernel)
theorem dmX13_linking_59 : decode cX13_linking 59 = .ok (.iconst 1, 1) := dw_at cX13_linking_k2 (p := 10) rfl (by decide +kernel)
theorem dmX13_linking_60 : decode cX13_linking 60 = .ok (.invokevirtual 403, 3) := dw_at cX13_linking_k2 (p := 11) rfl (by decide +kernel)
theorem dmX13_linking_63 : decode cX13_linking 63 = .ok (.ireturn, 1) := dw_at cX13_linking_k2 (p := 14) rfl (by decide +kernel)
theorem dmX13_linking_64 : decode cX13_linking 64 = .ok (.iload_n 2, 1) := dw_at cX13_linking_k2 (p := 15) rfl (by decide +kernel)
theorem dmX13_linking_65 : decode cX13_linking 65 = .ok (.iload_n 3, 1) := dw_at cX13_linking_k2 (p := 16) rfl (by decide +kernel)
theorem dmX13_linking_66 : decode cX13_linking 66 = .ok (.if_icmp .ne 9, 3) := dw_at cX13_linking_k2 (p := 17) rfl (by decide +kernel)
theorem dmX13_linking_69 : decode cX13_linking 69 = .ok (.aload_n 0, 1) := dw_at cX13_linking_k2 (p := 20) rfl (by decide +kernel)
theorem dmX13_linking_70 : decode cX13_linking 70 = .ok (.iconst 2, 1) := dw_at cX13_linking_k2 (p := 21) rfl (by decide +kernel)
theorem dmX13_linking_71 : decode cX13_linking 71 = .ok (.invokevirtual 403, 3) := dw_at cX13_linking_k2 (p := 22) rfl (by decide +kernel)
theorem dmX13_linking_74 : decode cX13_linking 74 = .ok (.ireturn, 1) := dw_at cX13_linking_k3 (p := 0) rfl (by decide +kernel)
theorem dmX13_linking_75 : decode cX13_linking 75 = .ok (.iconst 0, 1) := dw_at cX13_linking_k3 (p := 1) rfl (by decide +kernel)
theorem dmX13_linking_76 : decode cX13_linking 76 = .ok (.istore 4, 2) := dw_at cX13_linking_k3 (p := 2) rfl (by decide +kernel)
theorem dmX13_linking_78 : decode cX13_linking 78 = .ok (.iconst 0, 1) := dw_at cX13_linking_k3 (p := 4) rfl (by decide +kernel)
theorem dmX13_linking_79 : decode cX13_linking 79 = .ok (.istore 5, 2) := dw_at cX13_linking_k3 (p := 5) rfl (by decide +kernel)
theorem dmX13_linking_81 : decode cX13_linking 81 = .ok (.iload 5, 2) := dw_at cX13_linking_k3 (p := 7) rfl (by decide +kernel)
theorem dmX13_linking_83 : decode cX13_linking 83 = .ok (.aload_n 0, 1) := dw_at cX13_linking_k3 (p := 9) rfl (by decide +kernel)
theorem dmX13_linking_84 : decode cX13_linking 84 = .ok (.getfield 114, 3) := dw_at cX13_linking_k3 (p := 10) rfl (by decide +kernel)
theorem dmX13_linking_87 : decode cX13_linking 87 = .ok (.getfield 44, 3) := dw_at cX13_linking_k3 (p := 13) rfl (by decide +kernel)
theorem dmX13_linking_90 : decode cX13_linking 90 = .ok (.if_icmp .ge 68, 3) := dw_at cX13_linking_k3 (p := 16) rfl (by decide +kernel)
theorem dmX13_linking_93 : decode cX13_linking 93 = .ok (.aload_n 0, 1) := dw_at cX13_linking_k3 (p := 19) rfl (by decide +kernel)
theorem dmX13_linking_94 : decode cX13_linking 94 = .ok (.getfield 114, 3) := dw_at cX13_linking_k3 (p := 20) rfl (by decide +kernel)
theorem dmX13_linking_97 : decode cX13_linking 97 = .ok (.getfield 18, 3) := dw_at cX13_linking_k3 (p := 23) rfl (by decide +kernel)
theorem dmX13_linking_100 : decode cX13_linking 100 = .ok (.iload 5, 2) := dw_at cX13_linking_k4 (p := 0) rfl (by decide +kernel)
theorem dmX13_linking_102 : decode cX13_linking 102 = .ok (.iaload, 1) := dw_at cX13_linking_k4 (p := 2) rfl (by decide +kernel)
theorem dmX13_linking_103 : decode cX13_linking 103 = .ok (.iload_n 2, 1) := dw_at cX13_linking_k4 (p := 3) rfl (by decide +kernel)
theorem dmX13_linking_104 : decode cX13_linking 104 = .ok (.if_icmp .ne 48, 3) := dw_at cX13_linking_k4 (p := 4) rfl (by decide +kernel)
theorem dmX13_linking_107 : decode cX13_linking 107 = .ok (.aload_n 0, 1) := dw_at cX13_linking_k4 (p := 7) rfl (by decide +kernel)
theorem dmX13_linking_108 : decode cX13_linking 108 = .ok (.getfield 114, 3) := dw_at cX13_linking_k4 (p := 8) rfl (by decide +kernel)
theorem dmX13_linking_111 : decode cX13_linking 111 = .ok (.getfield 18, 3) := dw_at cX13_linking_k4 (p := 11) rfl (by decide +kernel)
theorem dmX13_linking_114 : decode cX13_linking 114 = .ok (.aload_n 0, 1) := dw_at cX13_linking_k4 (p := 14) rfl (by decide +kernel)
theorem dmX13_linking_115 : decode cX13_linking 115 = .ok (.getfield 114, 3) := dw_at cX13_linking_k4 (p := 15) rfl (by decide +kernel)
theorem dmX13_linking_118 : decode cX13_linking 118 = .ok (.getfield 41, 3) := dw_at cX13_linking_k4 (p := 18) rfl (by decide +kernel)
theorem dmX13_linking_121 : decode cX13_linking 121 = .ok (.iload 5, 2) := dw_at cX13_linking_k4 (p := 21) rfl (by decide +kernel)
theorem dmX13_linking_123 : decode cX13_linking 123 = .ok (.iaload, 1) := dw_at cX13_linking_k4 (p := 23) rfl (by decide +kernel)
theorem dmX13_linking_124 : decode cX13_linking 124 = .ok (.iaload, 1) := dw_at cX13_linking_k5 (p := 0) rfl (by decide +kernel)
theorem dmX13_linking_125 : decode cX13_linking 125 = .ok (.iload_n 3, 1) := dw_at cX13_linking_k5 (p := 1) rfl (by decide +kernel)
theorem dmX13_linking_126 : decode cX13_linking 126 = .ok (.if_icmp .ne 26, 3) := dw_at cX13_linking_k5 (p := 2) rfl (by decide +kernel)
theorem dmX13_linking_129 : decode cX13_linking 129 = .ok (.iload 4, 2) := dw_at cX13_linking_k5 (p := 5) rfl (by decide +kernel)
theorem dmX13_linking_131 : decode cX13_linking 131 = .ok (.aload_n 0, 1) := dw_at cX13_linking_k5 (p := 7) rfl (by decide +kernel)
theorem dmX13_linking_132 : decode cX13_linking 132 = .ok (.getfield 114, 3) := dw_at cX13_linking_k5 (p := 8) rfl (by decide +kernel)
theorem dmX13_linking_135 : decode cX13_linking 135 = .ok (.getfield 35, 3) := dw_at cX13_linking_k5 (p := 11) rfl (by decide +kernel)
theorem dmX13_linking_138 : decode cX13_linking 138 = .ok (.aload_n 0, 1) := dw_at cX13_linking_k5 (p := 14) rfl (by decide +kernel)
theorem dmX13_linking_139 : decode cX13_linking 139 = .ok (.getfield 114, 3) := dw_at cX13_linking_k5 (p := 15) rfl (by decide +kernel)
theorem dmX13_linking_142 : decode cX13_linking 142 = .ok (.getfield 23, 3) := dw_at cX13_linking_k5 (p := 18) rfl (by decide +kernel)
theorem dmX13_linking_145 : decode cX13_linking 145 = .ok (.iload 5, 2) := dw_at cX13_linking_k5 (p := 21) rfl (by decide +kernel)
theorem dmX13_linking_147 : decode cX13_linking 147 = .ok (.iaload, 1) := dw_at cX13_linking_k5 (p := 23) rfl (by decide +kernel)
theorem dmX13_linking_148 : decode cX13_linking 148 = .ok (.iaload, 1) := dw_at cX13_linking_k6 (p := 0) rfl (by decide +kernel)
theorem dmX13_linking_149 : decode cX13_linking 149 = .ok (.iadd, 1) := dw_at cX13_linking_k6 (p := 1) rfl (by decide +kernel)
theorem dmX13_linking_150 : decode cX13_linking 150 = .ok (.istore 4, 2) := dw_at cX13_linking_k6 (p := 2) rfl (by decide +kernel)
theorem dmX13_linking_152 : decode cX13_linking 152 = .ok (.iinc 5 1, 3) := dw_at cX13_linking_k6 (p := 4) rfl (by decide +kernel)
theorem dmX13_linking_155 : decode cX13_linking 155 = .ok (.goto (-74), 3) := dw_at cX13_linking_k6 (p := 7) rfl (by decide +kernel)
theorem dmX13_linking_158 : decode cX13_linking 158 = .ok (.iload 4, 2) := dw_at cX13_linking_k6 (p := 10) rfl (by decide +kernel)
theorem dmX13_linking_160 : decode cX13_linking 160 = .ok (.iconst 2, 1) := dw_at cX13_linking_k6 (p := 12) rfl (by decide +kernel)
theorem dmX13_linking_161 : decode cX13_linking 161 = .ok (.idiv, 1) := dw_at cX13_linking_k6 (p := 13) rfl (by decide +kernel)
theorem dmX13_linking_162 : decode cX13_linking 162 = .ok (.ireturn, 1) := dw_at cX13_linking_k6 (p := 14) rfl (by decide +kernel)
def qm_X13_linking_0 (K : Nat) (go : Nat → Int32 → Int32 → Int32 → Int32 → Int32 → ow_MS → Option (Int32 × ow_MS)) (x1 : Int32) (x2 : Int32) (x3 : Int32) (x4 : Int32) (x5 : Int32) (z : ow_MS) : Option (Int32 × ow_MS) :=
 wrF z 1 0 fun z1 => cs1 (qe_X13_has K x1 z1) fun v3 z2 => (if v3 = 0 then cs1 (qe_X13_fails K 1 z2) fun v10 z9 => some (v10, z9)
 else cs0 (qe_X13_open K x1 1000 z2) fun z4 => (if x2 < 0 then go 1 x1 x2 x3 0 0 z4
 else rdF z4 (1000 + 2) fun v5 => (if v5 ≤ x2 then go 1 x1 x2 x3 0 0 z4
 else (if x3 < 0 then go 1 x1 x2 x3 0 0 z4
 else rdF z4 (1000 + 2) fun v6 => (if x3 < v6 then (if x2 = x3 then cs1 (qe_X13_fails K 2 z4) fun v8 z7 => some (v8, z7)
 else go 2 x1 x2 x3 0 0 z4)
 else go 1 x1 x2 x3 0 0 z4)))))
def qm_X13_linking_1 (K : Nat) (go : Nat → Int32 → Int32 → Int32 → Int32 → Int32 → ow_MS → Option (Int32 × ow_MS)) (x1 : Int32) (x2 : Int32) (x3 : Int32) (x4 : Int32) (x5 : Int32) (z : ow_MS) : Option (Int32 × ow_MS) :=
 cs1 (qe_X13_fails K 1 z) fun v12 z11 => some (v12, z11)
def qm_X13_linking_2 (K : Nat) (go : Nat → Int32 → Int32 → Int32 → Int32 → Int32 → ow_MS → Option (Int32 × ow_MS)) (x1 : Int32) (x2 : Int32) (x3 : Int32) (x4 : Int32) (x5 : Int32) (z : ow_MS) : Option (Int32 × ow_MS) :=
 rdF z (1000 + 1) fun v13 => (if v13 ≤ x5 then nzI 2 (some ((x4 / 2), z))
 else rdI mX z (1000 + 8) x5 fun v14 => (if v14 = x2 then rdI mX z (1000 + 7) x5 fun v15 => rdI mX z (1000 + 8) v15 fun v16 => (if v16 = x3 then rdI mX z (1000 + 4) x5 fun v17 => rdI mX z (1000 + 6) v17 fun v18 => go 3 x1 x2 x3 (x4 + v18) x5 z
 else go 3 x1 x2 x3 x4 x5 z)
 else go 3 x1 x2 x3 x4 x5 z))
def qm_X13_linking_3 (K : Nat) (go : Nat → Int32 → Int32 → Int32 → Int32 → Int32 → ow_MS → Option (Int32 × ow_MS)) (x1 : Int32) (x2 : Int32) (x3 : Int32) (x4 : Int32) (x5 : Int32) (z : ow_MS) : Option (Int32 × ow_MS) :=
 go 2 x1 x2 x3 x4 (x5 + 1) z
def qb_X13_linking (K : Nat) (go : Nat → Int32 → Int32 → Int32 → Int32 → Int32 → ow_MS → Option (Int32 × ow_MS)) (L : Nat) (x1 : Int32) (x2 : Int32) (x3 : Int32) (x4 : Int32) (x5 : Int32) (z : ow_MS) : Option (Int32 × ow_MS) := match L with
  | 0 => qm_X13_linking_0 K go x1 x2 x3 x4 x5 z
  | 1 => qm_X13_linking_1 K go x1 x2 x3 x4 x5 z
  | 2 => qm_X13_linking_2 K go x1 x2 x3 x4 x5 z
  | 3 => qm_X13_linking_3 K go x1 x2 x3 x4 x5 z
  | _ => none
def q_X13_linking (K : Nat) : Nat → Nat → Int32 → Int32 → Int32 → Int32 → Int32 → ow_MS → Option (Int32 × ow_MS)
  | 0 => fun _ _ _ _ _ _ _ => none
  | k + 1 => qb_X13_linking K (q_X13_linking K k)
def qe_X13_linking (K : Nat) (x1 : Int32) (x2 : Int32) (x3 : Int32) (z : ow_MS) : Option (Int32 × ow_MS) := q_X13_linking K K 0 x1 x2 x3 0 0 z
abbrev wm_X13_linking : List Cond := .code yX13_linking cX13_linking 6 (some .int) :: wM
theorem cd_X13_linking : yX13_linking.cls = RX13 ∧ yX13_linking.cls ≠ "java/lang/invoke/MethodHandle" ∧ yX13_linking.cls ≠ "java/lang/invoke/VarHandle" ∧ (parseMethodDescriptor yX13_linking.desc).map (fun d => d.parameters.length) = some 3 := by decide +kernel
set_option maxHeartbeats 4000000 in
set_option maxRecDepth 100000 in
theorem km_X13_linking (l : Launch) (D : va_G) (q : ow_Q5) (u : Nat → Nat) (hU : tw_inj mX u) (K : Nat) (x1 : Int32) (x2 : Int32) (x3 : Int32)  (z z1 : ow_MS) (r : Int32) (hq : qe_X13_linking K x1 x2 x3 z = some (r, z1)) : Met l yX13_linking wm_X13_linking ({ frames := 3, cells := 0, slots := 0, locals := 68 } : Room) (va_Pc [.ref (u 0), .int x1, .int x2, .int x3] (mw_pre D q u z)) (va_Qi (fun x (_ : Unit) => x = r) (fun _ t => va_P D vwCl (tw mX q u z1) t.heap) (tw_A mX u)) 0 0 (tw_A mX u) := by
  refine Met.ofW (cc := cX13_linking) (maxL := 6) (ret := (some .int)) (by decide) rfl ?_
  intro p e s m args below meth c s₁ B hml hv
  obtain ⟨rfl, hP, hK, hN⟩ := hv
  have hx := B.exec
  have hb := B.bytes
  have hr := B.returns
  have hts := atoms_spec (ws := wm_X13_linking) B.pre
  have hT : ∀ w ∈ wM, w.before ([.ref (u 0), .int x1, .int x2, .int x3] : List Value).toArray s = true := fun w h => hts w (List.mem_cons_of_mem _ h)
  have hown : s.vm.findClass RX13 = some m.cls := findClass_of_methodNamed B.named
  have hlocks := B.notSynchronized
  have hM : tw_M D vwCl mX q s.heap u z s.heap [] := ⟨hP, va_S.rf⟩
  have hl := lv_entry ([.ref (u 0), .int x1, .int x2, .int x3]) (n := 6) (Nat.le_of_ble_eq_true rfl)
  rw [lg_entry_eq]
  generalize (lg_sl ([.ref (u 0), .int x1, .int x2, .int x3]) ++ List.replicate (6 - (lg_sl ([.ref (u 0), .int x1, .int x2, .int x3])).length) Slot.unset).toArray = ls at hl ⊢
  have hl : lv_has ls 6 [(0, .ref (u 0)), (1, .int x1), (2, .int x2), (3, .int x3)] := hl
  refine ow_named (fun QQ hQQ => ?_)
  generalize ([.ref (u 0), .int x1, .int x2, .int x3] : List Value).toArray = args at hts hT hQQ ⊢
  have key : ∀ k : Nat, (∀ (x1 : Int32) (x2 : Int32) (x3 : Int32) (x4 : Int32) (x5 : Int32) (z : ow_MS) (H : Heap) (locs : List Loc) (ls : Array Slot), tw_M D vwCl mX q s.heap u z H locs → lv_has ls 6 [(0, .ref (u 0)), (1, .int x1), (2, .int x2), (3, .int x3)] → q_X13_linking K k 0 x1 x2 x3 x4 x5 z = some (r, z1) → W p l e ({ frames := 3, cells := 0, slots := 0, locals := 68 } : Room) s m args below meth c H locs 0 0 QQ (F0 m 0 ls [])) ∧ (∀ (x1 : Int32) (x2 : Int32) (x3 : Int32) (x4 : Int32) (x5 : Int32) (z : ow_MS) (H : Heap) (locs : List Loc) (ls : Array Slot), tw_M D vwCl mX q s.heap u z H locs → lv_has ls 6 [(0, .ref (u 0)), (1, .int x1), (2, .int x2), (3, .int x3)] → q_X13_linking K k 1 x1 x2 x3 x4 x5 z = some (r, z1) → W p l e ({ frames := 3, cells := 0, slots := 0, locals := 68 } : Room) s m args below meth c H locs 0 0 QQ (F0 m 58 ls [])) ∧ (∀ (x1 : Int32) (x2 : Int32) (x3 : Int32) (x4 : Int32) (x5 : Int32) (z : ow_MS) (H : Heap) (locs : List Loc) (ls : Array Slot), tw_M D vwCl mX q s.heap u z H locs → lv_has ls 6 [(0, .ref (u 0)), (1, .int x1), (2, .int x2), (3, .int x3), (4, .int x4), (5, .int x5)] → q_X13_linking K k 2 x1 x2 x3 x4 x5 z = some (r, z1) → W p l e ({ frames := 3, cells := 0, slots := 0, locals := 68 } : Room) s m args below meth c H locs 0 0 QQ (F0 m 81 ls [])) ∧ (∀ (x1 : Int32) (x2 : Int32) (x3 : Int32) (x4 : Int32) (x5 : Int32) (z : ow_MS) (H : Heap) (locs : List Loc) (ls : Array Slot), tw_M D vwCl mX q s.heap u z H locs → lv_has ls 6 [(0, .ref (u 0)), (1, .int x1), (2, .int x2), (3, .int x3), (4, .int x4), (5, .int x5)] → q_X13_linking K k 3 x1 x2 x3 x4 x5 z = some (r, z1) → W p l e ({ frames := 3, cells := 0, slots := 0, locals := 68 } : Room) s m args below meth c H locs 0 0 QQ (F0 m 152 ls [])) := by
    intro k
    induction k with
    | zero => exact ⟨fun _ _ _ _ _ _ _ _ _  _ _ hq => tw_no hq, fun _ _ _ _ _ _ _ _ _  _ _ hq => tw_no hq, fun _ _ _ _ _ _ _ _ _  _ _ hq => tw_no hq, fun _ _ _ _ _ _ _ _ _  _ _ hq => tw_no hq⟩
    | succ k ih =>
      obtain ⟨ih_0, ih_1, ih_2, ih_3⟩ := ih
      refine ⟨?_, ?_, ?_, ?_⟩
      · intro x1 x2 x3 x4 x5 z H locs ls  hM hl hq
        have hq : qm_X13_linking_0 K (q_X13_linking K k) x1 x2 x3 x4 x5 z = some (r, z1) := hq
        unfold qm_X13_linking_0 at hq
        refine lv_aload_n hx hb dmX13_linking_0 rfl (lv_at hl 0 rfl) ?_
        refine lv_iconst (v := 0) hx hb dmX13_linking_1 (by decide) ?_
        refine mp13_1 hx hb hT hown hK hM hU hq dmX13_linking_2 (fun z1 H locs hM hq => ?_)
        refine lv_aload_n hx hb dmX13_linking_5 rfl (lv_at hl 0 rfl) ?_
        refine lv_iload_n hx hb dmX13_linking_6 rfl (lv_at hl 1 rfl) ?_
        obtain ⟨v3, z2, hcq, hq⟩ := tw_cl1 hq
        refine tw_cali hM (va_runV (As := [.int x1]) (rest := []) ⟨hx, hb, hml, hown, hts⟩ (km_X13_has l D q u hU K x1 z1 z2 v3 hcq) (cwV 1 hts (tw_gV wM_good wq_127 wq_128 wq_129 wq_61 wq_90) rfl rfl rfl cd_X13_has ⟨(Nat.le_of_ble_eq_true rfl), (Nat.le_of_ble_eq_true rfl)⟩) (mw_preV hK hN hM mo_0 rfl) rfl rfl hl.1 rfl (lv_room (Nat.le_of_ble_eq_true rfl)) dmX13_linking_7 ⟨(Nat.le_of_ble_eq_true rfl), (Nat.le_of_ble_eq_true rfl)⟩) (fun H locs hM => ?_)
        refine lv_if_ne (tgt := 19) hx hb dmX13_linking_10 (by decide) (fun hc => ?_) (fun hc => ?_)
        · have hq := tw_if hq hc
          refine lv_aload_n hx hb dmX13_linking_19 rfl (lv_at hl 0 rfl) ?_
          refine lv_iload_n hx hb dmX13_linking_20 rfl (lv_at hl 1 rfl) ?_
          refine lv_aload_n hx hb dmX13_linking_21 rfl (lv_at hl 0 rfl) ?_
          refine mg13_114 hx hb hT hown hK hM dmX13_linking_22 ?_
          obtain ⟨z4, hcq, hq⟩ := tw_cl0 hq
          refine tw_calv hM (va_runV (As := [.int x1, .ref (u 1000)]) (rest := []) ⟨hx, hb, hml, hown, hts⟩ (km_X13_open l D q u hU K x1 1000 mw_n1 z2 z4 hcq) (cwV 2 hts (tw_gV wM_good wq_138 wq_139 wq_140 wq_61 wq_136) rfl rfl rfl cd_X13_open ⟨(Nat.le_of_ble_eq_true rfl), (Nat.le_of_ble_eq_true rfl)⟩) (mw_preV hK hN hM mo_0 rfl) rfl rfl hl.1 rfl (lv_room (Nat.le_of_ble_eq_true rfl)) dmX13_linking_25 ⟨(Nat.le_of_ble_eq_true rfl), (Nat.le_of_ble_eq_true rfl)⟩) (fun H locs hM => ?_)
          refine lv_iload_n hx hb dmX13_linking_28 rfl (lv_at hl 2 rfl) ?_
          refine lv_if_lt (tgt := 58) hx hb dmX13_linking_29 (by decide) (fun hc => ?_) (fun hc => ?_)
          · have hq := tw_it hq hc
            exact ih_1 x1 x2 x3 0 0 z4 H locs ls hM (lv_sub hl [0, 1, 2, 3] rfl) hq
          · have hq := tw_if hq hc
            refine lv_iload_n hx hb dmX13_linking_32 rfl (lv_at hl 2 rfl) ?_
            refine lv_aload_n hx hb dmX13_linking_33 rfl (lv_at hl 0 rfl) ?_
            refine mg13_114 hx hb hT hown hK hM dmX13_linking_34 ?_
            refine mg13_407 hx hb hT hown hK hM hN mw_n1 hq dmX13_linking_37 (fun v5 hq => ?_)
            refine lv_icmp_ge (tgt := 58) hx hb dmX13_linking_40 (by decide) (fun hc => ?_) (fun hc => ?_)
            · have hq := tw_it hq hc
              exact ih_1 x1 x2 x3 0 0 z4 H locs ls hM (lv_sub hl [0, 1, 2, 3] rfl) hq
            · have hq := tw_if hq hc
              refine lv_iload_n hx hb dmX13_linking_43 rfl (lv_at hl 3 rfl) ?_
              refine lv_if_lt (tgt := 58) hx hb dmX13_linking_44 (by decide) (fun hc => ?_) (fun hc => ?_)
              · have hq := tw_it hq hc
                exact ih_1 x1 x2 x3 0 0 z4 H locs ls hM (lv_sub hl [0, 1, 2, 3] rfl) hq
              · have hq := tw_if hq hc
                refine lv_iload_n hx hb dmX13_linking_47 rfl (lv_at hl 3 rfl) ?_
                refine lv_aload_n hx hb dmX13_linking_48 rfl (lv_at hl 0 rfl) ?_
                refine mg13_114 hx hb hT hown hK hM dmX13_linking_49 ?_
                refine mg13_407 hx hb hT hown hK hM hN mw_n1 hq dmX13_linking_52 (fun v6 hq => ?_)
                refine lv_icmp_lt (tgt := 64) hx hb dmX13_linking_55 (by decide) (fun hc => ?_) (fun hc => ?_)
                · have hq := tw_it hq hc
                  refine lv_iload_n hx hb dmX13_linking_64 rfl (lv_at hl 2 rfl) ?_
                  refine lv_iload_n hx hb dmX13_linking_65 rfl (lv_at hl 3 rfl) ?_
                  refine lv_icmp_ne (tgt := 75) hx hb dmX13_linking_66 (by decide) (fun hc => ?_) (fun hc => ?_)
                  · have hq := tw_if hq hc
                    refine lv_iconst (v := 0) hx hb dmX13_linking_75 (by decide) ?_
                    refine lv_istore (lv' := [(4, .int 0), (0, .ref (u 0)), (1, .int x1), (2, .int x2), (3, .int x3)]) hx hb dmX13_linking_76 hl (by decide) rfl (fun ls hl => ?_)
                    refine lv_iconst (v := 0) hx hb dmX13_linking_78 (by decide) ?_
                    refine lv_istore (lv' := [(5, .int 0), (4, .int 0), (0, .ref (u 0)), (1, .int x1), (2, .int x2), (3, .int x3)]) hx hb dmX13_linking_79 hl (by decide) rfl (fun ls hl => ?_)
                    exact ih_2 x1 x2 x3 0 0 z4 H locs ls hM (lv_sub hl [2, 3, 4, 5, 1, 0] rfl) hq
                  · have hq := tw_it hq hc
                    refine lv_aload_n hx hb dmX13_linking_69 rfl (lv_at hl 0 rfl) ?_
                    refine lv_iconst (v := 2) hx hb dmX13_linking_70 (by decide) ?_
                    obtain ⟨v8, z7, hcq, hq⟩ := tw_cl1 hq
                    refine tw_cali hM (va_runV (As := [.int 2]) (rest := []) ⟨hx, hb, hml, hown, hts⟩ (km_X13_fails l D q u hU K 2 z4 z7 v8 hcq) (cwV 1 hts (tw_gV wM_good wq_103 wq_104 wq_105 wq_61 wq_50) rfl rfl rfl cd_X13_fails ⟨(Nat.le_of_ble_eq_true rfl), (Nat.le_of_ble_eq_true rfl)⟩) (mw_preV hK hN hM mo_0 rfl) rfl rfl hl.1 rfl (lv_room (Nat.le_of_ble_eq_true rfl)) dmX13_linking_71 ⟨(Nat.le_of_ble_eq_true rfl), (Nat.le_of_ble_eq_true rfl)⟩) (fun H locs hM => ?_)
                    exact mw_iret hx hb hr hlocks hM hq hQQ dmX13_linking_74
                · have hq := tw_if hq hc
                  exact ih_1 x1 x2 x3 0 0 z4 H locs ls hM (lv_sub hl [0, 1, 2, 3] rfl) hq
        · have hq := tw_it hq hc
          refine lv_aload_n hx hb dmX13_linking_13 rfl (lv_at hl 0 rfl) ?_
          refine lv_iconst (v := 1) hx hb dmX13_linking_14 (by decide) ?_
          obtain ⟨v10, z9, hcq, hq⟩ := tw_cl1 hq
          refine tw_cali hM (va_runV (As := [.int 1]) (rest := []) ⟨hx, hb, hml, hown, hts⟩ (km_X13_fails l D q u hU K 1 z2 z9 v10 hcq) (cwV 1 hts (tw_gV wM_good wq_103 wq_104 wq_105 wq_61 wq_50) rfl rfl rfl cd_X13_fails ⟨(Nat.le_of_ble_eq_true rfl), (Nat.le_of_ble_eq_true rfl)⟩) (mw_preV hK hN hM mo_0 rfl) rfl rfl hl.1 rfl (lv_room (Nat.le_of_ble_eq_true rfl)) dmX13_linking_15 ⟨(Nat.le_of_ble_eq_true rfl), (Nat.le_of_ble_eq_true rfl)⟩) (fun H locs hM => ?_)
          exact mw_iret hx hb hr hlocks hM hq hQQ dmX13_linking_18
      · intro x1 x2 x3 x4 x5 z H locs ls  hM hl hq
        have hq : qm_X13_linking_1 K (q_X13_linking K k) x1 x2 x3 x4 x5 z = some (r, z1) := hq
        unfold qm_X13_linking_1 at hq
        refine lv_aload_n hx hb dmX13_linking_58 rfl (lv_at hl 0 rfl) ?_
        refine lv_iconst (v := 1) hx hb dmX13_linking_59 (by decide) ?_
        obtain ⟨v12, z11, hcq, hq⟩ := tw_cl1 hq
        refine tw_cali hM (va_runV (As := [.int 1]) (rest := []) ⟨hx, hb, hml, hown, hts⟩ (km_X13_fails l D q u hU K 1 z z11 v12 hcq) (cwV 1 hts (tw_gV wM_good wq_103 wq_104 wq_105 wq_61 wq_50) rfl rfl rfl cd_X13_fails ⟨(Nat.le_of_ble_eq_true rfl), (Nat.le_of_ble_eq_true rfl)⟩) (mw_preV hK hN hM mo_0 rfl) rfl rfl hl.1 rfl (lv_room (Nat.le_of_ble_eq_true rfl)) dmX13_linking_60 ⟨(Nat.le_of_ble_eq_true rfl), (Nat.le_of_ble_eq_true rfl)⟩) (fun H locs hM => ?_)
        exact mw_iret hx hb hr hlocks hM hq hQQ dmX13_linking_63
      · intro x1 x2 x3 x4 x5 z H locs ls  hM hl hq
        have hq : qm_X13_linking_2 K (q_X13_linking K k) x1 x2 x3 x4 x5 z = some (r, z1) := hq
        unfold qm_X13_linking_2 at hq
        refine lv_iload hx hb dmX13_linking_81 (lv_at hl 5 rfl) ?_
        refine lv_aload_n hx hb dmX13_linking_83 rfl (lv_at hl 0 rfl) ?_
        refine mg13_114 hx hb hT hown hK hM dmX13_linking_84 ?_
        refine mg13_44 hx hb hT hown hK hM hN mw_n1 hq dmX13_linking_87 (fun v13 hq => ?_)
        refine lv_icmp_ge (tgt := 158) hx hb dmX13_linking_90 (by decide) (fun hc => ?_) (fun hc => ?_)
        · have hq := tw_it hq hc
          refine lv_iload hx hb dmX13_linking_158 (lv_at hl 4 rfl) ?_
          refine lv_iconst (v := 2) hx hb dmX13_linking_160 (by decide) ?_
          obtain ⟨hz, hq⟩ := tw_nzI hq
          refine lv_idiv hx hb dmX13_linking_161 hz ?_
          exact mw_iret hx hb hr hlocks hM hq hQQ dmX13_linking_162
        · have hq := tw_if hq hc
          refine lv_aload_n hx hb dmX13_linking_93 rfl (lv_at hl 0 rfl) ?_
          refine mg13_114 hx hb hT hown hK hM dmX13_linking_94 ?_
          refine mg13_18 hx hb hT hown hK hM hN mw_n1 dmX13_linking_97 ?_
          refine lv_iload hx hb dmX13_linking_100 (lv_at hl 5 rfl) ?_
          refine tw_iald mX_ok hx hb hK hM (mrn_8 mw_n1) hq dmX13_linking_102 (fun v14 hq => ?_)
          refine lv_iload_n hx hb dmX13_linking_103 rfl (lv_at hl 2 rfl) ?_
          refine lv_icmp_ne (tgt := 152) hx hb dmX13_linking_104 (by decide) (fun hc => ?_) (fun hc => ?_)
          · have hq := tw_if hq hc
            exact ih_3 x1 x2 x3 x4 x5 z H locs ls hM (lv_sub hl [0, 1, 2, 3, 4, 5] rfl) hq
          · have hq := tw_it hq hc
            refine lv_aload_n hx hb dmX13_linking_107 rfl (lv_at hl 0 rfl) ?_
            refine mg13_114 hx hb hT hown hK hM dmX13_linking_108 ?_
            refine mg13_18 hx hb hT hown hK hM hN mw_n1 dmX13_linking_111 ?_
            refine lv_aload_n hx hb dmX13_linking_114 rfl (lv_at hl 0 rfl) ?_
            refine mg13_114 hx hb hT hown hK hM dmX13_linking_115 ?_
            refine mg13_41 hx hb hT hown hK hM hN mw_n1 dmX13_linking_118 ?_
            refine lv_iload hx hb dmX13_linking_121 (lv_at hl 5 rfl) ?_
            refine tw_iald mX_ok hx hb hK hM (mrn_7 mw_n1) hq dmX13_linking_123 (fun v15 hq => ?_)
            refine tw_iald mX_ok hx hb hK hM (mrn_8 mw_n1) hq dmX13_linking_124 (fun v16 hq => ?_)
            refine lv_iload_n hx hb dmX13_linking_125 rfl (lv_at hl 3 rfl) ?_
            refine lv_icmp_ne (tgt := 152) hx hb dmX13_linking_126 (by decide) (fun hc => ?_) (fun hc => ?_)
            · have hq := tw_if hq hc
              exact ih_3 x1 x2 x3 x4 x5 z H locs ls hM (lv_sub hl [0, 1, 2, 3, 4, 5] rfl) hq
            · have hq := tw_it hq hc
              refine lv_iload hx hb dmX13_linking_129 (lv_at hl 4 rfl) ?_
              refine lv_aload_n hx hb dmX13_linking_131 rfl (lv_at hl 0 rfl) ?_
              refine mg13_114 hx hb hT hown hK hM dmX13_linking_132 ?_
              refine mg13_35 hx hb hT hown hK hM hN mw_n1 dmX13_linking_135 ?_
              refine lv_aload_n hx hb dmX13_linking_138 rfl (lv_at hl 0 rfl) ?_
              refine mg13_114 hx hb hT hown hK hM dmX13_linking_139 ?_
              refine mg13_23 hx hb hT hown hK hM hN mw_n1 dmX13_linking_142 ?_
              refine lv_iload hx hb dmX13_linking_145 (lv_at hl 5 rfl) ?_
              refine tw_iald mX_ok hx hb hK hM (mrn_4 mw_n1) hq dmX13_linking_147 (fun v17 hq => ?_)
              refine tw_iald mX_ok hx hb hK hM (mrn_6 mw_n1) hq dmX13_linking_148 (fun v18 hq => ?_)
              refine lv_iadd hx hb dmX13_linking_149 ?_
              refine lv_istore (lv' := [(4, .int (x4 + v18)), (0, .ref (u 0)), (1, .int x1), (2, .int x2), (3, .int x3), (5, .int x5)]) hx hb dmX13_linking_150 hl (by decide) rfl (fun ls hl => ?_)
              exact ih_3 x1 x2 x3 (x4 + v18) x5 z H locs ls hM (lv_sub hl [1, 2, 3, 4, 0, 5] rfl) hq
      · intro x1 x2 x3 x4 x5 z H locs ls  hM hl hq
        have hq : qm_X13_linking_3 K (q_X13_linking K k) x1 x2 x3 x4 x5 z = some (r, z1) := hq
        unfold qm_X13_linking_3 at hq
        refine lv_iinc (v := (x5 + 1)) (lv' := [(5, .int (x5 + 1)), (0, .ref (u 0)), (1, .int x1), (2, .int x2), (3, .int x3), (4, .int x4)]) hx hb dmX13_linking_152 hl (k := 5) rfl rfl (by decide) rfl (fun ls hl => ?_)
        refine lv_goto (tgt := 81) hx hb dmX13_linking_155 (by decide) ?_
        exact ih_2 x1 x2 x3 x4 (x5 + 1) z H locs ls hM (lv_sub hl [1, 2, 3, 4, 5, 0] rfl) hq
  exact (key K).1 x1 x2 x3 0 0 z s.heap [] ls  hM (lv_sub hl [0, 1, 2, 3] rfl) hq
theorem dmX13_alike_0 : decode cX13_alike 0 = .ok (.aload_n 0, 1) := dw_at cX13_alike_k0 (p := 0) rfl (by decide +kernel)
theorem dmX13_alike_1 : decode cX13_alike 1 = .ok (.iconst 0, 1) := dw_at cX13_alike_k0 (p := 1) rfl (by decide +kernel)
theorem dmX13_alike_2 : decode cX13_alike 2 = .ok (.putfield 1, 3) := dw_at cX13_alike_k0 (p := 2) rfl (by decide +kernel)
theorem dmX13_alike_5 : decode cX13_alike 5 = .ok (.aload_n 0, 1) := dw_at cX13_alike_k0 (p := 5) rfl (by decide +kernel)
theorem dmX13_alike_6 : decode cX13_alike 6 = .ok (.iload_n 1, 1) := dw_at cX13_alike_k0 (p := 6) rfl (by decide +kernel)
theorem dmX13_alike_7 : decode cX13_alike 7 = .ok (.invokevirtual 423, 3) := dw_at cX13_alike_k0 (p := 7) rfl (by decide +kernel)
theorem dmX13_alike_10 : decode cX13_alike 10 = .ok (.ifCond .eq 37, 3) := dw_at cX13_alike_k0 (p := 10) rfl (by decide +kernel)
theorem dmX13_alike_13 : decode cX13_alike 13 = .ok (.aload_n 0, 1) := dw_at cX13_alike_k0 (p := 13) rfl (by decide +kernel)
theorem dmX13_alike_14 : decode cX13_alike 14 = .ok (.iload_n 2, 1) := dw_at cX13_alike_k0 (p := 14) rfl (by decide +kernel)
theorem dmX13_alike_15 : decode cX13_alike 15 = .ok (.invokevirtual 423, 3) := dw_at cX13_alike_k0 (p := 15) rfl (by decide +kernel)
theorem dmX13_alike_18 : decode cX13_alike 18 = .ok (.ifCond .eq 29, 3) := dw_at cX13_alike_k0 (p := 18) rfl (by decide +kernel)
theorem dmX13_alike_21 : decode cX13_alike 21 = .ok (.aload_n 0, 1) := dw_at cX13_alike_k0 (p := 21) rfl (by decide +kernel)
theorem dmX13_alike_22 : decode cX13_alike 22 = .ok (.getfield 110, 3) := dw_at cX13_alike_k0 (p := 22) rfl (by decide +kernel)
theorem dmX13_alike_25 : decode cX13_alike 25 = .ok (.bipush 32, 2) := dw_at cX13_alike_k1 (p := 0) rfl (by decide +kernel)
theorem dmX13_alike_27 : decode cX13_alike 27 = .ok (.iload_n 1, 1) := dw_at cX13_alike_k1 (p := 2) rfl (by decide +kernel)
theorem dmX13_alike_28 : decode cX13_alike 28 = .ok (.imul, 1) := dw_at cX13_alike_k1 (p := 3) rfl (by decide +kernel)
theorem dmX13_alike_29 : decode cX13_alike 29 = .ok (.aload_n 0, 1) := dw_at cX13_alike_k1 (p := 4) rfl (by decide +kernel)
theorem dmX13_alike_30 : decode cX13_alike 30 = .ok (.getfield 110, 3) := dw_at cX13_alike_k1 (p := 5) rfl (by decide +kernel)
theorem dmX13_alike_33 : decode cX13_alike 33 = .ok (.bipush 32, 2) := dw_at cX13_alike_k1 (p := 8) rfl (by decide +kernel)
theorem dmX13_alike_35 : decode cX13_alike 35 = .ok (.iload_n 2, 1) := dw_at cX13_alike_k1 (p := 10) rfl (by decide +kernel)
theorem dmX13_alike_36 : decode cX13_alike 36 = .ok (.imul, 1) := dw_at cX13_alike_k1 (p := 11) rfl (by decide +kernel)
theorem dmX13_alike_37 : decode cX13_alike 37 = .ok (.invokestatic 445, 3) := dw_at cX13_alike_k1 (p := 12) rfl (by decide +kernel)
theorem dmX13_alike_40 : decode cX13_alike 40 = .ok (.ifCond .eq 7, 3) := dw_at cX13_alike_k1 (p := 15) rfl (by decide +kernel)
theorem dmX13_alike_43 : decode cX13_alike 43 = .ok (.iconst 1, 1) := dw_at cX13_alike_k1 (p := 18) rfl (by decide +kernel)
theorem dmX13_alike_44 : decode cX13_alike 44 = .ok (.goto 4, 3) := dw_at cX13_alike_k1 (p := 19) rfl (by decide +kernel)
theorem dmX13_alike_47 : decode cX13_alike 47 = .ok (.iconst 0, 1) := dw_at cX13_alike_k1 (p := 22) rfl (by decide +kernel)
theorem dmX13_alike_48 : decode cX13_alike 48 = .ok (.ireturn, 1) := dw_at cX13_alike_k1 (p := 23) rfl (by decide +kernel)
def qm_X13_alike_0 (K : Nat) (x1 : Int32) (x2 : Int32) (z : ow_MS) : Option (Int32 × ow_MS) :=
 wrF z 1 0 fun z1 => cs1 (qe_X13_has K x1 z1) fun v3 z2 => (if v3 = 0 then okZ 0 (some (0, z2))
 else cs1 (qe_X13_has K x2 z2) fun v5 z4 => (if v5 = 0 then okZ 0 (some (0, z4))
 else cs1 (qe_X13_isSame K 12 (32 * x1) 12 (32 * x2) z4) fun v7 z6 => (if v7 = 0 then okZ 0 (some (0, z6))
 else okZ 1 (some (1, z6)))))
def qe_X13_alike (K : Nat) (x1 : Int32) (x2 : Int32) (z : ow_MS) : Option (Int32 × ow_MS) := qm_X13_alike_0 K x1 x2 z
abbrev wm_X13_alike : List Cond := .code yX13_alike cX13_alike 3 (some .boolean) :: wM
theorem cd_X13_alike : yX13_alike.cls = RX13 ∧ yX13_alike.cls ≠ "java/lang/invoke/MethodHandle" ∧ yX13_alike.cls ≠ "java/lang/invoke/VarHandle" ∧ (parseMethodDescriptor yX13_alike.desc).map (fun d => d.parameters.length) = some 2 := by decide +kernel
set_option maxHeartbeats 4000000 in
set_option maxRecDepth 100000 in
theorem km_X13_alike (l : Launch) (D : va_G) (q : ow_Q5) (u : Nat → Nat) (hU : tw_inj mX u) (K : Nat) (x1 : Int32) (x2 : Int32)  (z z1 : ow_MS) (r : Int32) (hq : qe_X13_alike K x1 x2 z = some (r, z1)) : Met l yX13_alike wm_X13_alike ({ frames := 1, cells := 0, slots := 0, locals := 24 } : Room) (va_Pc [.ref (u 0), .int x1, .int x2] (mw_pre D q u z)) (va_Qi (fun x (_ : Unit) => x = r) (fun _ t => va_P D vwCl (tw mX q u z1) t.heap) (tw_A mX u)) 0 0 (tw_A mX u) := by
  refine Met.ofW (cc := cX13_alike) (maxL := 3) (ret := (some .boolean)) (by decide) rfl ?_
  intro p e s m args below meth c s₁ B hml hv
  obtain ⟨rfl, hP, hK, hN⟩ := hv
  have hx := B.exec
  have hb := B.bytes
  have hr := B.returns
  have hts := atoms_spec (ws := wm_X13_alike) B.pre
  have hT : ∀ w ∈ wM, w.before ([.ref (u 0), .int x1, .int x2] : List Value).toArray s = true := fun w h => hts w (List.mem_cons_of_mem _ h)
  have hown : s.vm.findClass RX13 = some m.cls := findClass_of_methodNamed B.named
  have hlocks := B.notSynchronized
  have hM : tw_M D vwCl mX q s.heap u z s.heap [] := ⟨hP, va_S.rf⟩
  have hl := lv_entry ([.ref (u 0), .int x1, .int x2]) (n := 3) (Nat.le_of_ble_eq_true rfl)
  rw [lg_entry_eq]
  generalize (lg_sl ([.ref (u 0), .int x1, .int x2]) ++ List.replicate (3 - (lg_sl ([.ref (u 0), .int x1, .int x2])).length) Slot.unset).toArray = ls at hl ⊢
  have hl : lv_has ls 3 [(0, .ref (u 0)), (1, .int x1), (2, .int x2)] := hl
  refine ow_named (fun QQ hQQ => ?_)
  generalize ([.ref (u 0), .int x1, .int x2] : List Value).toArray = args at hts hT hQQ ⊢
  have hq : qm_X13_alike_0 K x1 x2 z = some (r, z1) := hq
  unfold qm_X13_alike_0 at hq
  suffices key : ∀ (H : Heap) (locs : List Loc), tw_M D vwCl mX q s.heap u z H locs → W p l e ({ frames := 1, cells := 0, slots := 0, locals := 24 } : Room) s m args below meth c H locs 0 0 QQ (F0 m 0 ls []) from key s.heap [] hM
  intro H locs hM
  refine lv_aload_n hx hb dmX13_alike_0 rfl (lv_at hl 0 rfl) ?_
  refine lv_iconst (v := 0) hx hb dmX13_alike_1 (by decide) ?_
  refine mp13_1 hx hb hT hown hK hM hU hq dmX13_alike_2 (fun z1 H locs hM hq => ?_)
  refine lv_aload_n hx hb dmX13_alike_5 rfl (lv_at hl 0 rfl) ?_
  refine lv_iload_n hx hb dmX13_alike_6 rfl (lv_at hl 1 rfl) ?_
  obtain ⟨v3, z2, hcq, hq⟩ := tw_cl1 hq
  refine tw_cali hM (va_runV (As := [.int x1]) (rest := []) ⟨hx, hb, hml, hown, hts⟩ (km_X13_has l D q u hU K x1 z1 z2 v3 hcq) (cwV 1 hts (tw_gV wM_good wq_127 wq_128 wq_129 wq_61 wq_90) rfl rfl rfl cd_X13_has ⟨(Nat.le_of_ble_eq_true rfl), (Nat.le_of_ble_eq_true rfl)⟩) (mw_preV hK hN hM mo_0 rfl) rfl rfl hl.1 rfl (lv_room (Nat.le_of_ble_eq_true rfl)) dmX13_alike_7 ⟨(Nat.le_of_ble_eq_true rfl), (Nat.le_of_ble_eq_true rfl)⟩) (fun H locs hM => ?_)
  refine lv_if_eq (tgt := 47) hx hb dmX13_alike_10 (by decide) (fun hc => ?_) (fun hc => ?_)
  · have hq := tw_it hq hc
    refine lv_iconst (v := 0) hx hb dmX13_alike_47 (by decide) ?_
    obtain ⟨hz, hq⟩ := tw_gZ hq
    exact mw_zret hx hb hr hlocks hM hz hq hQQ dmX13_alike_48
  · have hq := tw_if hq hc
    refine lv_aload_n hx hb dmX13_alike_13 rfl (lv_at hl 0 rfl) ?_
    refine lv_iload_n hx hb dmX13_alike_14 rfl (lv_at hl 2 rfl) ?_
    obtain ⟨v5, z4, hcq, hq⟩ := tw_cl1 hq
    refine tw_cali hM (va_runV (As := [.int x2]) (rest := []) ⟨hx, hb, hml, hown, hts⟩ (km_X13_has l D q u hU K x2 z2 z4 v5 hcq) (cwV 1 hts (tw_gV wM_good wq_127 wq_128 wq_129 wq_61 wq_90) rfl rfl rfl cd_X13_has ⟨(Nat.le_of_ble_eq_true rfl), (Nat.le_of_ble_eq_true rfl)⟩) (mw_preV hK hN hM mo_0 rfl) rfl rfl hl.1 rfl (lv_room (Nat.le_of_ble_eq_true rfl)) dmX13_alike_15 ⟨(Nat.le_of_ble_eq_true rfl), (Nat.le_of_ble_eq_true rfl)⟩) (fun H locs hM => ?_)
    refine lv_if_eq (tgt := 47) hx hb dmX13_alike_18 (by decide) (fun hc => ?_) (fun hc => ?_)
    · have hq := tw_it hq hc
      refine lv_iconst (v := 0) hx hb dmX13_alike_47 (by decide) ?_
      obtain ⟨hz, hq⟩ := tw_gZ hq
      exact mw_zret hx hb hr hlocks hM hz hq hQQ dmX13_alike_48
    · have hq := tw_if hq hc
      refine lv_aload_n hx hb dmX13_alike_21 rfl (lv_at hl 0 rfl) ?_
      refine mg13_110 hx hb hT hown hK hM dmX13_alike_22 ?_
      refine lv_bipush (v := 32) hx hb dmX13_alike_25 (by decide) ?_
      refine lv_iload_n hx hb dmX13_alike_27 rfl (lv_at hl 1 rfl) ?_
      refine lv_imul hx hb dmX13_alike_28 ?_
      refine lv_aload_n hx hb dmX13_alike_29 rfl (lv_at hl 0 rfl) ?_
      refine mg13_110 hx hb hT hown hK hM dmX13_alike_30 ?_
      refine lv_bipush (v := 32) hx hb dmX13_alike_33 (by decide) ?_
      refine lv_iload_n hx hb dmX13_alike_35 rfl (lv_at hl 2 rfl) ?_
      refine lv_imul hx hb dmX13_alike_36 ?_
      obtain ⟨v7, z6, hcq, hq⟩ := tw_cl1 hq
      refine tw_cali hM (va_runS (As := [.ref (u 12), .int (32 * x1), .ref (u 12), .int (32 * x2)]) (rest := []) ⟨hx, hb, hml, hown, hts⟩ (km_X13_isSame l D q u hU K 12 (32 * x1) 12 (32 * x2) mr_12 mr_12 z4 z6 v7 hcq) (va_cwS 4 hts (tw_gS wM_good wq_149 wq_150 wq_61 wq_74) rfl rfl rfl cd_X13_isSame ⟨(Nat.le_of_ble_eq_true rfl), (Nat.le_of_ble_eq_true rfl)⟩) (mw_preS hK hN hM) rfl rfl hl.1 rfl (lv_room (Nat.le_of_ble_eq_true rfl)) dmX13_alike_37 ⟨(Nat.le_of_ble_eq_true rfl), (Nat.le_of_ble_eq_true rfl)⟩) (fun H locs hM => ?_)
      refine lv_if_eq (tgt := 47) hx hb dmX13_alike_40 (by decide) (fun hc => ?_) (fun hc => ?_)
      · have hq := tw_it hq hc
        refine lv_iconst (v := 0) hx hb dmX13_alike_47 (by decide) ?_
        obtain ⟨hz, hq⟩ := tw_gZ hq
        exact mw_zret hx hb hr hlocks hM hz hq hQQ dmX13_alike_48
      · have hq := tw_if hq hc
        refine lv_iconst (v := 1) hx hb dmX13_alike_43 (by decide) ?_
        refine lv_goto (tgt := 48) hx hb dmX13_alike_44 (by decide) ?_
        obtain ⟨hz, hq⟩ := tw_gZ hq
        exact mw_zret hx hb hr hlocks hM hz hq hQQ dmX13_alike_48
theorem dmX13_mirror_0 : decode cX13_mirror 0 = .ok (.aload_n 0, 1) := dw_at cX13_mirror_k0 (p := 0) rfl (by decide +kernel)
theorem dmX13_mirror_1 : decode cX13_mirror 1 = .ok (.iconst 0, 1) := dw_at cX13_mirror_k0 (p := 1) rfl (by decide +kernel)
theorem dmX13_mirror_2 : decode cX13_mirror 2 = .ok (.putfield 1, 3) := dw_at cX13_mirror_k0 (p := 2) rfl (by decide +kernel)
theorem dmX13_mirror_5 : decode cX13_mirror 5 = .ok (.aload_n 0, 1) := dw_at cX13_mirror_k0 (p := 5) rfl (by decide +kernel)
theorem dmX13_mirror_6 : decode cX13_mirror 6 = .ok (.iload_n 1, 1) := dw_at cX13_mirror_k0 (p := 6) rfl (by decide +kernel)
theorem dmX13_mirror_7 : decode cX13_mirror 7 = .ok (.invokevirtual 423, 3) := dw_at cX13_mirror_k0 (p := 7) rfl (by decide +kernel)
theorem dmX13_mirror_10 : decode cX13_mirror 10 = .ok (.ifCond .ne 9, 3) := dw_at cX13_mirror_k0 (p := 10) rfl (by decide +kernel)
theorem dmX13_mirror_13 : decode cX13_mirror 13 = .ok (.aload_n 0, 1) := dw_at cX13_mirror_k0 (p := 13) rfl (by decide +kernel)
theorem dmX13_mirror_14 : decode cX13_mirror 14 = .ok (.iconst 1, 1) := dw_at cX13_mirror_k0 (p := 14) rfl (by decide +kernel)
theorem dmX13_mirror_15 : decode cX13_mirror 15 = .ok (.invokevirtual 403, 3) := dw_at cX13_mirror_k0 (p := 15) rfl (by decide +kernel)
theorem dmX13_mirror_18 : decode cX13_mirror 18 = .ok (.ireturn, 1) := dw_at cX13_mirror_k0 (p := 18) rfl (by decide +kernel)
theorem dmX13_mirror_19 : decode cX13_mirror 19 = .ok (.aload_n 0, 1) := dw_at cX13_mirror_k0 (p := 19) rfl (by decide +kernel)
theorem dmX13_mirror_20 : decode cX13_mirror 20 = .ok (.invokevirtual 392, 3) := dw_at cX13_mirror_k0 (p := 20) rfl (by decide +kernel)
theorem dmX13_mirror_23 : decode cX13_mirror 23 = .ok (.iconst (-1), 1) := dw_at cX13_mirror_k0 (p := 23) rfl (by decide +kernel)
theorem dmX13_mirror_24 : decode cX13_mirror 24 = .ok (.if_icmp .ne 9, 3) := dw_at cX13_mirror_k1 (p := 0) rfl (by decide +kernel)
theorem dmX13_mirror_27 : decode cX13_mirror 27 = .ok (.aload_n 0, 1) := dw_at cX13_mirror_k1 (p := 3) rfl (by decide +kernel)
theorem dmX13_mirror_28 : decode cX13_mirror 28 = .ok (.iconst 2, 1) := dw_at cX13_mirror_k1 (p := 4) rfl (by decide +kernel)
theorem dmX13_mirror_29 : decode cX13_mirror 29 = .ok (.invokevirtual 403, 3) := dw_at cX13_mirror_k1 (p := 5) rfl (by decide +kernel)
theorem dmX13_mirror_32 : decode cX13_mirror 32 = .ok (.ireturn, 1) := dw_at cX13_mirror_k1 (p := 8) rfl (by decide +kernel)
theorem dmX13_mirror_33 : decode cX13_mirror 33 = .ok (.aload_n 0, 1) := dw_at cX13_mirror_k1 (p := 9) rfl (by decide +kernel)
theorem dmX13_mirror_34 : decode cX13_mirror 34 = .ok (.iload_n 1, 1) := dw_at cX13_mirror_k1 (p := 10) rfl (by decide +kernel)
theorem dmX13_mirror_35 : decode cX13_mirror 35 = .ok (.aload_n 0, 1) := dw_at cX13_mirror_k1 (p := 11) rfl (by decide +kernel)
theorem dmX13_mirror_36 : decode cX13_mirror 36 = .ok (.getfield 121, 3) := dw_at cX13_mirror_k1 (p := 12) rfl (by decide +kernel)
theorem dmX13_mirror_39 : decode cX13_mirror 39 = .ok (.invokevirtual 434, 3) := dw_at cX13_mirror_k1 (p := 15) rfl (by decide +kernel)
theorem dmX13_mirror_42 : decode cX13_mirror 42 = .ok (.iconst 0, 1) := dw_at cX13_mirror_k1 (p := 18) rfl (by decide +kernel)
theorem dmX13_mirror_43 : decode cX13_mirror 43 = .ok (.istore_n 2, 1) := dw_at cX13_mirror_k1 (p := 19) rfl (by decide +kernel)
theorem dmX13_mirror_44 : decode cX13_mirror 44 = .ok (.iload_n 2, 1) := dw_at cX13_mirror_k1 (p := 20) rfl (by decide +kernel)
theorem dmX13_mirror_45 : decode cX13_mirror 45 = .ok (.aload_n 0, 1) := dw_at cX13_mirror_k1 (p := 21) rfl (by decide +kernel)
theorem dmX13_mirror_46 : decode cX13_mirror 46 = .ok (.getfield 121, 3) := dw_at cX13_mirror_k1 (p := 22) rfl (by decide +kernel)
theorem dmX13_mirror_49 : decode cX13_mirror 49 = .ok (.getfield 44, 3) := dw_at cX13_mirror_k2 (p := 0) rfl (by decide +kernel)
theorem dmX13_mirror_52 : decode cX13_mirror 52 = .ok (.if_icmp .ge 29, 3) := dw_at cX13_mirror_k2 (p := 3) rfl (by decide +kernel)
theorem dmX13_mirror_55 : decode cX13_mirror 55 = .ok (.aload_n 0, 1) := dw_at cX13_mirror_k2 (p := 6) rfl (by decide +kernel)
theorem dmX13_mirror_56 : decode cX13_mirror 56 = .ok (.getfield 121, 3) := dw_at cX13_mirror_k2 (p := 7) rfl (by decide +kernel)
theorem dmX13_mirror_59 : decode cX13_mirror 59 = .ok (.getfield 32, 3) := dw_at cX13_mirror_k2 (p := 10) rfl (by decide +kernel)
theorem dmX13_mirror_62 : decode cX13_mirror 62 = .ok (.iload_n 2, 1) := dw_at cX13_mirror_k2 (p := 13) rfl (by decide +kernel)
theorem dmX13_mirror_63 : decode cX13_mirror 63 = .ok (.iconst 1, 1) := dw_at cX13_mirror_k2 (p := 14) rfl (by decide +kernel)
theorem dmX13_mirror_64 : decode cX13_mirror 64 = .ok (.aload_n 0, 1) := dw_at cX13_mirror_k2 (p := 15) rfl (by decide +kernel)
theorem dmX13_mirror_65 : decode cX13_mirror 65 = .ok (.getfield 121, 3) := dw_at cX13_mirror_k2 (p := 16) rfl (by decide +kernel)
theorem dmX13_mirror_68 : decode cX13_mirror 68 = .ok (.getfield 32, 3) := dw_at cX13_mirror_k2 (p := 19) rfl (by decide +kernel)
theorem dmX13_mirror_71 : decode cX13_mirror 71 = .ok (.iload_n 2, 1) := dw_at cX13_mirror_k2 (p := 22) rfl (by decide +kernel)
theorem dmX13_mirror_72 : decode cX13_mirror 72 = .ok (.iaload, 1) := dw_at cX13_mirror_k2 (p := 23) rfl (by decide +kernel)
theorem dmX13_mirror_73 : decode cX13_mirror 73 = .ok (.isub, 1) := dw_at cX13_mirror_k3 (p := 0) rfl (by decide +kernel)
theorem dmX13_mirror_74 : decode cX13_mirror 74 = .ok (.iastore, 1) := dw_at cX13_mirror_k3 (p := 1) rfl (by decide +kernel)
theorem dmX13_mirror_75 : decode cX13_mirror 75 = .ok (.iinc 2 1, 3) := dw_at cX13_mirror_k3 (p := 2) rfl (by decide +kernel)
theorem dmX13_mirror_78 : decode cX13_mirror 78 = .ok (.goto (-34), 3) := dw_at cX13_mirror_k3 (p := 5) rfl (by decide +kernel)
theorem dmX13_mirror_81 : decode cX13_mirror 81 = .ok (.iconst 0, 1) := dw_at cX13_mirror_k3 (p := 8) rfl (by decide +kernel)
theorem dmX13_mirror_82 : decode cX13_mirror 82 = .ok (.istore_n 2, 1) := dw_at cX13_mirror_k3 (p := 9) rfl (by decide +kernel)
theorem dmX13_mirror_83 : decode cX13_mirror 83 = .ok (.iload_n 2, 1) := dw_at cX13_mirror_k3 (p := 10) rfl (by decide +kernel)
theorem dmX13_mirror_84 : decode cX13_mirror 84 = .ok (.bipush 40, 2) := dw_at cX13_mirror_k3 (p := 11) rfl (by decide +kernel)
theorem dmX13_mirror_86 : decode cX13_mirror 86 = .ok (.if_icmp .ge 29, 3) := dw_at cX13_mirror_k3 (p := 13) rfl (by decide +kernel)
theorem dmX13_mirror_89 : decode cX13_mirror 89 = .ok (.aload_n 0, 1) := dw_at cX13_mirror_k3 (p := 16) rfl (by decide +kernel)
theorem dmX13_mirror_90 : decode cX13_mirror 90 = .ok (.getfield 121, 3) := dw_at cX13_mirror_k3 (p := 17) rfl (by decide +kernel)
theorem dmX13_mirror_93 : decode cX13_mirror 93 = .ok (.getfield 35, 3) := dw_at cX13_mirror_k3 (p := 20) rfl (by decide +kernel)
theorem dmX13_mirror_96 : decode cX13_mirror 96 = .ok (.iload_n 2, 1) := dw_at cX13_mirror_k3 (p := 23) rfl (by decide +kernel)
theorem dmX13_mirror_97 : decode cX13_mirror 97 = .ok (.iconst 0, 1) := dw_at cX13_mirror_k4 (p := 0) rfl (by decide +kernel)
theorem dmX13_mirror_98 : decode cX13_mirror 98 = .ok (.aload_n 0, 1) := dw_at cX13_mirror_k4 (p := 1) rfl (by decide +kernel)
theorem dmX13_mirror_99 : decode cX13_mirror 99 = .ok (.getfield 121, 3) := dw_at cX13_mirror_k4 (p := 2) rfl (by decide +kernel)
theorem dmX13_mirror_102 : decode cX13_mirror 102 = .ok (.getfield 35, 3) := dw_at cX13_mirror_k4 (p := 5) rfl (by decide +kernel)
theorem dmX13_mirror_105 : decode cX13_mirror 105 = .ok (.iload_n 2, 1) := dw_at cX13_mirror_k4 (p := 8) rfl (by decide +kernel)
theorem dmX13_mirror_106 : decode cX13_mirror 106 = .ok (.iaload, 1) := dw_at cX13_mirror_k4 (p := 9) rfl (by decide +kernel)
theorem dmX13_mirror_107 : decode cX13_mirror 107 = .ok (.isub, 1) := dw_at cX13_mirror_k4 (p := 10) rfl (by decide +kernel)
theorem dmX13_mirror_108 : decode cX13_mirror 108 = .ok (.iastore, 1) := dw_at cX13_mirror_k4 (p := 11) rfl (by decide +kernel)
theorem dmX13_mirror_109 : decode cX13_mirror 109 = .ok (.iinc 2 1, 3) := dw_at cX13_mirror_k4 (p := 12) rfl (by decide +kernel)
theorem dmX13_mirror_112 : decode cX13_mirror 112 = .ok (.goto (-29), 3) := dw_at cX13_mirror_k4 (p := 15) rfl (by decide +kernel)
theorem dmX13_mirror_115 : decode cX13_mirror 115 = .ok (.aload_n 0, 1) := dw_at cX13_mirror_k4 (p := 18) rfl (by decide +kernel)
theorem dmX13_mirror_116 : decode cX13_mirror 116 = .ok (.invokevirtual 420, 3) := dw_at cX13_mirror_k4 (p := 19) rfl (by decide +kernel)
theorem dmX13_mirror_119 : decode cX13_mirror 119 = .ok (.ireturn, 1) := dw_at cX13_mirror_k4 (p := 22) rfl (by decide +kernel)
def qm_X13_mirror_0 (K : Nat) (go : Nat → Int32 → Int32 → ow_MS → Option (Int32 × ow_MS)) (x1 : Int32) (x2 : Int32) (z : ow_MS) : Option (Int32 × ow_MS) :=
 wrF z 1 0 fun z1 => cs1 (qe_X13_has K x1 z1) fun v3 z2 => (if v3 = 0 then cs1 (qe_X13_fails K 1 z2) fun v10 z9 => some (v10, z9)
 else cs1 (qe_X13_free K z2) fun v5 z4 => (if v5 = (-1) then cs1 (qe_X13_fails K 2 z4) fun v8 z7 => some (v8, z7)
 else cs0 (qe_X13_open K x1 3000 z4) fun z6 => go 1 x1 0 z6))
def qm_X13_mirror_1 (K : Nat) (go : Nat → Int32 → Int32 → ow_MS → Option (Int32 × ow_MS)) (x1 : Int32) (x2 : Int32) (z : ow_MS) : Option (Int32 × ow_MS) :=
 rdF z (3000 + 1) fun v11 => (if v11 ≤ x2 then go 2 x1 0 z
 else rdI mX z (3000 + 5) x2 fun v12 => wrI mX z (3000 + 5) x2 (1 - v12) fun z13 => go 1 x1 (x2 + 1) z13)
def qm_X13_mirror_2 (K : Nat) (go : Nat → Int32 → Int32 → ow_MS → Option (Int32 × ow_MS)) (x1 : Int32) (x2 : Int32) (z : ow_MS) : Option (Int32 × ow_MS) :=
 (if 40 ≤ x2 then cs1 (qe_X13_keep K z) fun v15 z14 => some (v15, z14)
 else rdI mX z (3000 + 6) x2 fun v16 => wrI mX z (3000 + 6) x2 (0 - v16) fun z17 => go 2 x1 (x2 + 1) z17)
def qb_X13_mirror (K : Nat) (go : Nat → Int32 → Int32 → ow_MS → Option (Int32 × ow_MS)) (L : Nat) (x1 : Int32) (x2 : Int32) (z : ow_MS) : Option (Int32 × ow_MS) := match L with
  | 0 => qm_X13_mirror_0 K go x1 x2 z
  | 1 => qm_X13_mirror_1 K go x1 x2 z
  | 2 => qm_X13_mirror_2 K go x1 x2 z
  | _ => none
def q_X13_mirror (K : Nat) : Nat → Nat → Int32 → Int32 → ow_MS → Option (Int32 × ow_MS)
  | 0 => fun _ _ _ _ => none
  | k + 1 => qb_X13_mirror K (q_X13_mirror K k)
def qe_X13_mirror (K : Nat) (x1 : Int32) (z : ow_MS) : Option (Int32 × ow_MS) := q_X13_mirror K K 0 x1 0 z
abbrev wm_X13_mirror : List Cond := .code yX13_mirror cX13_mirror 3 (some .int) :: wM
theorem cd_X13_mirror : yX13_mirror.cls = RX13 ∧ yX13_mirror.cls ≠ "java/lang/invoke/MethodHandle" ∧ yX13_mirror.cls ≠ "java/lang/invoke/VarHandle" ∧ (parseMethodDescriptor yX13_mirror.desc).map (fun d => d.parameters.length) = some 1 := by decide +kernel
set_option maxHeartbeats 4000000 in
set_option maxRecDepth 100000 in
theorem km_X13_mirror (l : Launch) (D : va_G) (q : ow_Q5) (u : Nat → Nat) (hU : tw_inj mX u) (K : Nat) (x1 : Int32)  (z z1 : ow_MS) (r : Int32) (hq : qe_X13_mirror K x1 z = some (r, z1)) : Met l yX13_mirror wm_X13_mirror ({ frames := 5, cells := 0, slots := 0, locals := 132 } : Room) (va_Pc [.ref (u 0), .int x1] (mw_pre D q u z)) (va_Qi (fun x (_ : Unit) => x = r) (fun _ t => va_P D vwCl (tw mX q u z1) t.heap) (tw_A mX u)) 0 0 (tw_A mX u) := by
  refine Met.ofW (cc := cX13_mirror) (maxL := 3) (ret := (some .int)) (by decide) rfl ?_
  intro p e s m args below meth c s₁ B hml hv
  obtain ⟨rfl, hP, hK, hN⟩ := hv
  have hx := B.exec
  have hb := B.bytes
  have hr := B.returns
  have hts := atoms_spec (ws := wm_X13_mirror) B.pre
  have hT : ∀ w ∈ wM, w.before ([.ref (u 0), .int x1] : List Value).toArray s = true := fun w h => hts w (List.mem_cons_of_mem _ h)
  have hown : s.vm.findClass RX13 = some m.cls := findClass_of_methodNamed B.named
  have hlocks := B.notSynchronized
  have hM : tw_M D vwCl mX q s.heap u z s.heap [] := ⟨hP, va_S.rf⟩
  have hl := lv_entry ([.ref (u 0), .int x1]) (n := 3) (Nat.le_of_ble_eq_true rfl)
  rw [lg_entry_eq]
  generalize (lg_sl ([.ref (u 0), .int x1]) ++ List.replicate (3 - (lg_sl ([.ref (u 0), .int x1])).length) Slot.unset).toArray = ls at hl ⊢
  have hl : lv_has ls 3 [(0, .ref (u 0)), (1, .int x1)] := hl
  refine ow_named (fun QQ hQQ => ?_)
  generalize ([.ref (u 0), .int x1] : List Value).toArray = args at hts hT hQQ ⊢
  have key : ∀ k : Nat, (∀ (x1 : Int32) (x2 : Int32) (z : ow_MS) (H : Heap) (locs : List Loc) (ls : Array Slot), tw_M D vwCl mX q s.heap u z H locs → lv_has ls 3 [(0, .ref (u 0)), (1, .int x1)] → q_X13_mirror K k 0 x1 x2 z = some (r, z1) → W p l e ({ frames := 5, cells := 0, slots := 0, locals := 132 } : Room) s m args below meth c H locs 0 0 QQ (F0 m 0 ls [])) ∧ (∀ (x1 : Int32) (x2 : Int32) (z : ow_MS) (H : Heap) (locs : List Loc) (ls : Array Slot), tw_M D vwCl mX q s.heap u z H locs → lv_has ls 3 [(0, .ref (u 0)), (1, .int x1), (2, .int x2)] → q_X13_mirror K k 1 x1 x2 z = some (r, z1) → W p l e ({ frames := 5, cells := 0, slots := 0, locals := 132 } : Room) s m args below meth c H locs 0 0 QQ (F0 m 44 ls [])) ∧ (∀ (x1 : Int32) (x2 : Int32) (z : ow_MS) (H : Heap) (locs : List Loc) (ls : Array Slot), tw_M D vwCl mX q s.heap u z H locs → lv_has ls 3 [(0, .ref (u 0)), (1, .int x1), (2, .int x2)] → q_X13_mirror K k 2 x1 x2 z = some (r, z1) → W p l e ({ frames := 5, cells := 0, slots := 0, locals := 132 } : Room) s m args below meth c H locs 0 0 QQ (F0 m 83 ls [])) := by
    intro k
    induction k with
    | zero => exact ⟨fun _ _ _ _ _ _  _ _ hq => tw_no hq, fun _ _ _ _ _ _  _ _ hq => tw_no hq, fun _ _ _ _ _ _  _ _ hq => tw_no hq⟩
    | succ k ih =>
      obtain ⟨ih_0, ih_1, ih_2⟩ := ih
      refine ⟨?_, ?_, ?_⟩
      · intro x1 x2 z H locs ls  hM hl hq
        have hq : qm_X13_mirror_0 K (q_X13_mirror K k) x1 x2 z = some (r, z1) := hq
        unfold qm_X13_mirror_0 at hq
        refine lv_aload_n hx hb dmX13_mirror_0 rfl (lv_at hl 0 rfl) ?_
        refine lv_iconst (v := 0) hx hb dmX13_mirror_1 (by decide) ?_
        refine mp13_1 hx hb hT hown hK hM hU hq dmX13_mirror_2 (fun z1 H locs hM hq => ?_)
        refine lv_aload_n hx hb dmX13_mirror_5 rfl (lv_at hl 0 rfl) ?_
        refine lv_iload_n hx hb dmX13_mirror_6 rfl (lv_at hl 1 rfl) ?_
        obtain ⟨v3, z2, hcq, hq⟩ := tw_cl1 hq
        refine tw_cali hM (va_runV (As := [.int x1]) (rest := []) ⟨hx, hb, hml, hown, hts⟩ (km_X13_has l D q u hU K x1 z1 z2 v3 hcq) (cwV 1 hts (tw_gV wM_good wq_127 wq_128 wq_129 wq_61 wq_90) rfl rfl rfl cd_X13_has ⟨(Nat.le_of_ble_eq_true rfl), (Nat.le_of_ble_eq_true rfl)⟩) (mw_preV hK hN hM mo_0 rfl) rfl rfl hl.1 rfl (lv_room (Nat.le_of_ble_eq_true rfl)) dmX13_mirror_7 ⟨(Nat.le_of_ble_eq_true rfl), (Nat.le_of_ble_eq_true rfl)⟩) (fun H locs hM => ?_)
        refine lv_if_ne (tgt := 19) hx hb dmX13_mirror_10 (by decide) (fun hc => ?_) (fun hc => ?_)
        · have hq := tw_if hq hc
          refine lv_aload_n hx hb dmX13_mirror_19 rfl (lv_at hl 0 rfl) ?_
          obtain ⟨v5, z4, hcq, hq⟩ := tw_cl1 hq
          refine tw_cali hM (va_runV (As := []) (rest := []) ⟨hx, hb, hml, hown, hts⟩ (km_X13_free l D q u hU K z2 z4 v5 hcq) (cwV 0 hts (tw_gV wM_good wq_93 wq_94 wq_95 wq_61 wq_91) rfl rfl rfl cd_X13_free ⟨(Nat.le_of_ble_eq_true rfl), (Nat.le_of_ble_eq_true rfl)⟩) (mw_preV hK hN hM mo_0 rfl) rfl rfl hl.1 rfl (lv_room (Nat.le_of_ble_eq_true rfl)) dmX13_mirror_20 ⟨(Nat.le_of_ble_eq_true rfl), (Nat.le_of_ble_eq_true rfl)⟩) (fun H locs hM => ?_)
          refine lv_iconst (v := (-1)) hx hb dmX13_mirror_23 (by decide) ?_
          refine lv_icmp_ne (tgt := 33) hx hb dmX13_mirror_24 (by decide) (fun hc => ?_) (fun hc => ?_)
          · have hq := tw_if hq hc
            refine lv_aload_n hx hb dmX13_mirror_33 rfl (lv_at hl 0 rfl) ?_
            refine lv_iload_n hx hb dmX13_mirror_34 rfl (lv_at hl 1 rfl) ?_
            refine lv_aload_n hx hb dmX13_mirror_35 rfl (lv_at hl 0 rfl) ?_
            refine mg13_121 hx hb hT hown hK hM dmX13_mirror_36 ?_
            obtain ⟨z6, hcq, hq⟩ := tw_cl0 hq
            refine tw_calv hM (va_runV (As := [.int x1, .ref (u 3000)]) (rest := []) ⟨hx, hb, hml, hown, hts⟩ (km_X13_open l D q u hU K x1 3000 mw_n3 z4 z6 hcq) (cwV 2 hts (tw_gV wM_good wq_138 wq_139 wq_140 wq_61 wq_136) rfl rfl rfl cd_X13_open ⟨(Nat.le_of_ble_eq_true rfl), (Nat.le_of_ble_eq_true rfl)⟩) (mw_preV hK hN hM mo_0 rfl) rfl rfl hl.1 rfl (lv_room (Nat.le_of_ble_eq_true rfl)) dmX13_mirror_39 ⟨(Nat.le_of_ble_eq_true rfl), (Nat.le_of_ble_eq_true rfl)⟩) (fun H locs hM => ?_)
            refine lv_iconst (v := 0) hx hb dmX13_mirror_42 (by decide) ?_
            refine lv_istore_n (lv' := [(2, .int 0), (0, .ref (u 0)), (1, .int x1)]) hx hb dmX13_mirror_43 rfl hl (by decide) rfl (fun ls hl => ?_)
            exact ih_1 x1 0 z6 H locs ls hM (lv_sub hl [1, 2, 0] rfl) hq
          · have hq := tw_it hq hc
            refine lv_aload_n hx hb dmX13_mirror_27 rfl (lv_at hl 0 rfl) ?_
            refine lv_iconst (v := 2) hx hb dmX13_mirror_28 (by decide) ?_
            obtain ⟨v8, z7, hcq, hq⟩ := tw_cl1 hq
            refine tw_cali hM (va_runV (As := [.int 2]) (rest := []) ⟨hx, hb, hml, hown, hts⟩ (km_X13_fails l D q u hU K 2 z4 z7 v8 hcq) (cwV 1 hts (tw_gV wM_good wq_103 wq_104 wq_105 wq_61 wq_50) rfl rfl rfl cd_X13_fails ⟨(Nat.le_of_ble_eq_true rfl), (Nat.le_of_ble_eq_true rfl)⟩) (mw_preV hK hN hM mo_0 rfl) rfl rfl hl.1 rfl (lv_room (Nat.le_of_ble_eq_true rfl)) dmX13_mirror_29 ⟨(Nat.le_of_ble_eq_true rfl), (Nat.le_of_ble_eq_true rfl)⟩) (fun H locs hM => ?_)
            exact mw_iret hx hb hr hlocks hM hq hQQ dmX13_mirror_32
        · have hq := tw_it hq hc
          refine lv_aload_n hx hb dmX13_mirror_13 rfl (lv_at hl 0 rfl) ?_
          refine lv_iconst (v := 1) hx hb dmX13_mirror_14 (by decide) ?_
          obtain ⟨v10, z9, hcq, hq⟩ := tw_cl1 hq
          refine tw_cali hM (va_runV (As := [.int 1]) (rest := []) ⟨hx, hb, hml, hown, hts⟩ (km_X13_fails l D q u hU K 1 z2 z9 v10 hcq) (cwV 1 hts (tw_gV wM_good wq_103 wq_104 wq_105 wq_61 wq_50) rfl rfl rfl cd_X13_fails ⟨(Nat.le_of_ble_eq_true rfl), (Nat.le_of_ble_eq_true rfl)⟩) (mw_preV hK hN hM mo_0 rfl) rfl rfl hl.1 rfl (lv_room (Nat.le_of_ble_eq_true rfl)) dmX13_mirror_15 ⟨(Nat.le_of_ble_eq_true rfl), (Nat.le_of_ble_eq_true rfl)⟩) (fun H locs hM => ?_)
          exact mw_iret hx hb hr hlocks hM hq hQQ dmX13_mirror_18
      · intro x1 x2 z H locs ls  hM hl hq
        have hq : qm_X13_mirror_1 K (q_X13_mirror K k) x1 x2 z = some (r, z1) := hq
        unfold qm_X13_mirror_1 at hq
        refine lv_iload_n hx hb dmX13_mirror_44 rfl (lv_at hl 2 rfl) ?_
        refine lv_aload_n hx hb dmX13_mirror_45 rfl (lv_at hl 0 rfl) ?_
        refine mg13_121 hx hb hT hown hK hM dmX13_mirror_46 ?_
        refine mg13_44 hx hb hT hown hK hM hN mw_n3 hq dmX13_mirror_49 (fun v11 hq => ?_)
        refine lv_icmp_ge (tgt := 81) hx hb dmX13_mirror_52 (by decide) (fun hc => ?_) (fun hc => ?_)
        · have hq := tw_it hq hc
          refine lv_iconst (v := 0) hx hb dmX13_mirror_81 (by decide) ?_
          refine lv_istore_n (lv' := [(2, .int 0), (0, .ref (u 0)), (1, .int x1)]) hx hb dmX13_mirror_82 rfl hl (by decide) rfl (fun ls hl => ?_)
          exact ih_2 x1 0 z H locs ls hM (lv_sub hl [1, 2, 0] rfl) hq
        · have hq := tw_if hq hc
          refine lv_aload_n hx hb dmX13_mirror_55 rfl (lv_at hl 0 rfl) ?_
          refine mg13_121 hx hb hT hown hK hM dmX13_mirror_56 ?_
          refine mg13_32 hx hb hT hown hK hM hN mw_n3 dmX13_mirror_59 ?_
          refine lv_iload_n hx hb dmX13_mirror_62 rfl (lv_at hl 2 rfl) ?_
          refine lv_iconst (v := 1) hx hb dmX13_mirror_63 (by decide) ?_
          refine lv_aload_n hx hb dmX13_mirror_64 rfl (lv_at hl 0 rfl) ?_
          refine mg13_121 hx hb hT hown hK hM dmX13_mirror_65 ?_
          refine mg13_32 hx hb hT hown hK hM hN mw_n3 dmX13_mirror_68 ?_
          refine lv_iload_n hx hb dmX13_mirror_71 rfl (lv_at hl 2 rfl) ?_
          refine tw_iald mX_ok hx hb hK hM (mrn_5 mw_n3) hq dmX13_mirror_72 (fun v12 hq => ?_)
          refine lv_isub hx hb dmX13_mirror_73 ?_
          refine tw_iast mX_ok hU hx hb hK hM (mrn_5 mw_n3) hq dmX13_mirror_74 (fun z13 H locs hM hq => ?_)
          refine lv_iinc (v := (x2 + 1)) (lv' := [(2, .int (x2 + 1)), (0, .ref (u 0)), (1, .int x1)]) hx hb dmX13_mirror_75 hl (k := 2) rfl rfl (by decide) rfl (fun ls hl => ?_)
          refine lv_goto (tgt := 44) hx hb dmX13_mirror_78 (by decide) ?_
          exact ih_1 x1 (x2 + 1) z13 H locs ls hM (lv_sub hl [1, 2, 0] rfl) hq
      · intro x1 x2 z H locs ls  hM hl hq
        have hq : qm_X13_mirror_2 K (q_X13_mirror K k) x1 x2 z = some (r, z1) := hq
        unfold qm_X13_mirror_2 at hq
        refine lv_iload_n hx hb dmX13_mirror_83 rfl (lv_at hl 2 rfl) ?_
        refine lv_bipush (v := 40) hx hb dmX13_mirror_84 (by decide) ?_
        refine lv_icmp_ge (tgt := 115) hx hb dmX13_mirror_86 (by decide) (fun hc => ?_) (fun hc => ?_)
        · have hq := tw_it hq hc
          refine lv_aload_n hx hb dmX13_mirror_115 rfl (lv_at hl 0 rfl) ?_
          obtain ⟨v15, z14, hcq, hq⟩ := tw_cl1 hq
          refine tw_cali hM (va_runV (As := []) (rest := []) ⟨hx, hb, hml, hown, hts⟩ (km_X13_keep l D q u hU K z z14 v15 hcq) (cwV 0 hts (tw_gV wM_good wq_123 wq_124 wq_125 wq_61 wq_99) rfl rfl rfl cd_X13_keep ⟨(Nat.le_of_ble_eq_true rfl), (Nat.le_of_ble_eq_true rfl)⟩) (mw_preV hK hN hM mo_0 rfl) rfl rfl hl.1 rfl (lv_room (Nat.le_of_ble_eq_true rfl)) dmX13_mirror_116 ⟨(Nat.le_of_ble_eq_true rfl), (Nat.le_of_ble_eq_true rfl)⟩) (fun H locs hM => ?_)
          exact mw_iret hx hb hr hlocks hM hq hQQ dmX13_mirror_119
        · have hq := tw_if hq hc
          refine lv_aload_n hx hb dmX13_mirror_89 rfl (lv_at hl 0 rfl) ?_
          refine mg13_121 hx hb hT hown hK hM dmX13_mirror_90 ?_
          refine mg13_35 hx hb hT hown hK hM hN mw_n3 dmX13_mirror_93 ?_
          refine lv_iload_n hx hb dmX13_mirror_96 rfl (lv_at hl 2 rfl) ?_
          refine lv_iconst (v := 0) hx hb dmX13_mirror_97 (by decide) ?_
          refine lv_aload_n hx hb dmX13_mirror_98 rfl (lv_at hl 0 rfl) ?_
          refine mg13_121 hx hb hT hown hK hM dmX13_mirror_99 ?_
          refine mg13_35 hx hb hT hown hK hM hN mw_n3 dmX13_mirror_102 ?_
          refine lv_iload_n hx hb dmX13_mirror_105 rfl (lv_at hl 2 rfl) ?_
          refine tw_iald mX_ok hx hb hK hM (mrn_6 mw_n3) hq dmX13_mirror_106 (fun v16 hq => ?_)
          refine lv_isub hx hb dmX13_mirror_107 ?_
          refine tw_iast mX_ok hU hx hb hK hM (mrn_6 mw_n3) hq dmX13_mirror_108 (fun z17 H locs hM hq => ?_)
          refine lv_iinc (v := (x2 + 1)) (lv' := [(2, .int (x2 + 1)), (0, .ref (u 0)), (1, .int x1)]) hx hb dmX13_mirror_109 hl (k := 2) rfl rfl (by decide) rfl (fun ls hl => ?_)
          refine lv_goto (tgt := 83) hx hb dmX13_mirror_112 (by decide) ?_
          exact ih_2 x1 (x2 + 1) z17 H locs ls hM (lv_sub hl [1, 2, 0] rfl) hq
  exact (key K).1 x1 0 z s.heap [] ls  hM (lv_sub hl [0, 1] rfl) hq
theorem dmX13_reverse_0 : decode cX13_reverse 0 = .ok (.aload_n 0, 1) := dw_at cX13_reverse_k0 (p := 0) rfl (by decide +kernel)
theorem dmX13_reverse_1 : decode cX13_reverse 1 = .ok (.iconst 0, 1) := dw_at cX13_reverse_k0 (p := 1) rfl (by decide +kernel)
theorem dmX13_reverse_2 : decode cX13_reverse 2 = .ok (.putfield 1, 3) := dw_at cX13_reverse_k0 (p := 2) rfl (by decide +kernel)
theorem dmX13_reverse_5 : decode cX13_reverse 5 = .ok (.aload_n 0, 1) := dw_at cX13_reverse_k0 (p := 5) rfl (by decide +kernel)
theorem dmX13_reverse_6 : decode cX13_reverse 6 = .ok (.iload_n 1, 1) := dw_at cX13_reverse_k0 (p := 6) rfl (by decide +kernel)
theorem dmX13_reverse_7 : decode cX13_reverse 7 = .ok (.invokevirtual 423, 3) := dw_at cX13_reverse_k0 (p := 7) rfl (by decide +kernel)
theorem dmX13_reverse_10 : decode cX13_reverse 10 = .ok (.ifCond .ne 9, 3) := dw_at cX13_reverse_k0 (p := 10) rfl (by decide +kernel)
theorem dmX13_reverse_13 : decode cX13_reverse 13 = .ok (.aload_n 0, 1) := dw_at cX13_reverse_k0 (p := 13) rfl (by decide +kernel)
theorem dmX13_reverse_14 : decode cX13_reverse 14 = .ok (.iconst 1, 1) := dw_at cX13_reverse_k0 (p := 14) rfl (by decide +kernel)
theorem dmX13_reverse_15 : decode cX13_reverse 15 = .ok (.invokevirtual 403, 3) := dw_at cX13_reverse_k0 (p := 15) rfl (by decide +kernel)
theorem dmX13_reverse_18 : decode cX13_reverse 18 = .ok (.ireturn, 1) := dw_at cX13_reverse_k0 (p := 18) rfl (by decide +kernel)
theorem dmX13_reverse_19 : decode cX13_reverse 19 = .ok (.aload_n 0, 1) := dw_at cX13_reverse_k0 (p := 19) rfl (by decide +kernel)
theorem dmX13_reverse_20 : decode cX13_reverse 20 = .ok (.iload_n 1, 1) := dw_at cX13_reverse_k0 (p := 20) rfl (by decide +kernel)
theorem dmX13_reverse_21 : decode cX13_reverse 21 = .ok (.aload_n 0, 1) := dw_at cX13_reverse_k0 (p := 21) rfl (by decide +kernel)
theorem dmX13_reverse_22 : decode cX13_reverse 22 = .ok (.getfield 114, 3) := dw_at cX13_reverse_k0 (p := 22) rfl (by decide +kernel)
theorem dmX13_reverse_25 : decode cX13_reverse 25 = .ok (.invokevirtual 434, 3) := dw_at cX13_reverse_k1 (p := 0) rfl (by decide +kernel)
theorem dmX13_reverse_28 : decode cX13_reverse 28 = .ok (.iload_n 2, 1) := dw_at cX13_reverse_k1 (p := 3) rfl (by decide +kernel)
theorem dmX13_reverse_29 : decode cX13_reverse 29 = .ok (.iconst (-1), 1) := dw_at cX13_reverse_k1 (p := 4) rfl (by decide +kernel)
theorem dmX13_reverse_30 : decode cX13_reverse 30 = .ok (.if_icmp .lt 14, 3) := dw_at cX13_reverse_k1 (p := 5) rfl (by decide +kernel)
theorem dmX13_reverse_33 : decode cX13_reverse 33 = .ok (.iload_n 2, 1) := dw_at cX13_reverse_k1 (p := 8) rfl (by decide +kernel)
theorem dmX13_reverse_34 : decode cX13_reverse 34 = .ok (.aload_n 0, 1) := dw_at cX13_reverse_k1 (p := 9) rfl (by decide +kernel)
theorem dmX13_reverse_35 : decode cX13_reverse 35 = .ok (.getfield 114, 3) := dw_at cX13_reverse_k1 (p := 10) rfl (by decide +kernel)
theorem dmX13_reverse_38 : decode cX13_reverse 38 = .ok (.getfield 407, 3) := dw_at cX13_reverse_k1 (p := 13) rfl (by decide +kernel)
theorem dmX13_reverse_41 : decode cX13_reverse 41 = .ok (.if_icmp .lt 9, 3) := dw_at cX13_reverse_k1 (p := 16) rfl (by decide +kernel)
theorem dmX13_reverse_44 : decode cX13_reverse 44 = .ok (.aload_n 0, 1) := dw_at cX13_reverse_k1 (p := 19) rfl (by decide +kernel)
theorem dmX13_reverse_45 : decode cX13_reverse 45 = .ok (.iconst 1, 1) := dw_at cX13_reverse_k1 (p := 20) rfl (by decide +kernel)
theorem dmX13_reverse_46 : decode cX13_reverse 46 = .ok (.invokevirtual 403, 3) := dw_at cX13_reverse_k1 (p := 21) rfl (by decide +kernel)
theorem dmX13_reverse_49 : decode cX13_reverse 49 = .ok (.ireturn, 1) := dw_at cX13_reverse_k2 (p := 0) rfl (by decide +kernel)
theorem dmX13_reverse_50 : decode cX13_reverse 50 = .ok (.aload_n 0, 1) := dw_at cX13_reverse_k2 (p := 1) rfl (by decide +kernel)
theorem dmX13_reverse_51 : decode cX13_reverse 51 = .ok (.invokevirtual 392, 3) := dw_at cX13_reverse_k2 (p := 2) rfl (by decide +kernel)
theorem dmX13_reverse_54 : decode cX13_reverse 54 = .ok (.iconst (-1), 1) := dw_at cX13_reverse_k2 (p := 5) rfl (by decide +kernel)
theorem dmX13_reverse_55 : decode cX13_reverse 55 = .ok (.if_icmp .ne 9, 3) := dw_at cX13_reverse_k2 (p := 6) rfl (by decide +kernel)
theorem dmX13_reverse_58 : decode cX13_reverse 58 = .ok (.aload_n 0, 1) := dw_at cX13_reverse_k2 (p := 9) rfl (by decide +kernel)
theorem dmX13_reverse_59 : decode cX13_reverse 59 = .ok (.iconst 2, 1) := dw_at cX13_reverse_k2 (p := 10) rfl (by decide +kernel)
theorem dmX13_reverse_60 : decode cX13_reverse 60 = .ok (.invokevirtual 403, 3) := dw_at cX13_reverse_k2 (p := 11) rfl (by decide +kernel)
theorem dmX13_reverse_63 : decode cX13_reverse 63 = .ok (.ireturn, 1) := dw_at cX13_reverse_k2 (p := 14) rfl (by decide +kernel)
theorem dmX13_reverse_64 : decode cX13_reverse 64 = .ok (.aload_n 0, 1) := dw_at cX13_reverse_k2 (p := 15) rfl (by decide +kernel)
theorem dmX13_reverse_65 : decode cX13_reverse 65 = .ok (.getfield 121, 3) := dw_at cX13_reverse_k2 (p := 16) rfl (by decide +kernel)
theorem dmX13_reverse_68 : decode cX13_reverse 68 = .ok (.invokevirtual 91, 3) := dw_at cX13_reverse_k2 (p := 19) rfl (by decide +kernel)
theorem dmX13_reverse_71 : decode cX13_reverse 71 = .ok (.aload_n 0, 1) := dw_at cX13_reverse_k2 (p := 22) rfl (by decide +kernel)
theorem dmX13_reverse_72 : decode cX13_reverse 72 = .ok (.getfield 121, 3) := dw_at cX13_reverse_k2 (p := 23) rfl (by decide +kernel)
theorem dmX13_reverse_75 : decode cX13_reverse 75 = .ok (.aload_n 0, 1) := dw_at cX13_reverse_k3 (p := 0) rfl (by decide +kernel)
theorem dmX13_reverse_76 : decode cX13_reverse 76 = .ok (.getfield 114, 3) := dw_at cX13_reverse_k3 (p := 1) rfl (by decide +kernel)
theorem dmX13_reverse_79 : decode cX13_reverse 79 = .ok (.invokevirtual 448, 3) := dw_at cX13_reverse_k3 (p := 4) rfl (by decide +kernel)
theorem dmX13_reverse_82 : decode cX13_reverse 82 = .ok (.iconst 0, 1) := dw_at cX13_reverse_k3 (p := 7) rfl (by decide +kernel)
theorem dmX13_reverse_83 : decode cX13_reverse 83 = .ok (.istore_n 3, 1) := dw_at cX13_reverse_k3 (p := 8) rfl (by decide +kernel)
theorem dmX13_reverse_84 : decode cX13_reverse 84 = .ok (.iload_n 3, 1) := dw_at cX13_reverse_k3 (p := 9) rfl (by decide +kernel)
theorem dmX13_reverse_85 : decode cX13_reverse 85 = .ok (.aload_n 0, 1) := dw_at cX13_reverse_k3 (p := 10) rfl (by decide +kernel)
theorem dmX13_reverse_86 : decode cX13_reverse 86 = .ok (.getfield 114, 3) := dw_at cX13_reverse_k3 (p := 11) rfl (by decide +kernel)
theorem dmX13_reverse_89 : decode cX13_reverse 89 = .ok (.getfield 407, 3) := dw_at cX13_reverse_k3 (p := 14) rfl (by decide +kernel)
theorem dmX13_reverse_92 : decode cX13_reverse 92 = .ok (.if_icmp .ge 203, 3) := dw_at cX13_reverse_k3 (p := 17) rfl (by decide +kernel)
theorem dmX13_reverse_95 : decode cX13_reverse 95 = .ok (.iload_n 2, 1) := dw_at cX13_reverse_k3 (p := 20) rfl (by decide +kernel)
theorem dmX13_reverse_96 : decode cX13_reverse 96 = .ok (.iconst (-1), 1) := dw_at cX13_reverse_k3 (p := 21) rfl (by decide +kernel)
theorem dmX13_reverse_97 : decode cX13_reverse 97 = .ok (.if_icmp .eq 8, 3) := dw_at cX13_reverse_k3 (p := 22) rfl (by decide +kernel)
theorem dmX13_reverse_100 : decode cX13_reverse 100 = .ok (.iload_n 2, 1) := dw_at cX13_reverse_k4 (p := 0) rfl (by decide +kernel)
theorem dmX13_reverse_101 : decode cX13_reverse 101 = .ok (.iload_n 3, 1) := dw_at cX13_reverse_k4 (p := 1) rfl (by decide +kernel)
theorem dmX13_reverse_102 : decode cX13_reverse 102 = .ok (.if_icmp .ne 7, 3) := dw_at cX13_reverse_k4 (p := 2) rfl (by decide +kernel)
theorem dmX13_reverse_105 : decode cX13_reverse 105 = .ok (.iconst 1, 1) := dw_at cX13_reverse_k4 (p := 5) rfl (by decide +kernel)
theorem dmX13_reverse_106 : decode cX13_reverse 106 = .ok (.goto 4, 3) := dw_at cX13_reverse_k4 (p := 6) rfl (by decide +kernel)
theorem dmX13_reverse_109 : decode cX13_reverse 109 = .ok (.iconst 0, 1) := dw_at cX13_reverse_k4 (p := 9) rfl (by decide +kernel)
theorem dmX13_reverse_110 : decode cX13_reverse 110 = .ok (.istore 4, 2) := dw_at cX13_reverse_k4 (p := 10) rfl (by decide +kernel)
theorem dmX13_reverse_112 : decode cX13_reverse 112 = .ok (.iconst 0, 1) := dw_at cX13_reverse_k4 (p := 12) rfl (by decide +kernel)
theorem dmX13_reverse_113 : decode cX13_reverse 113 = .ok (.istore 5, 2) := dw_at cX13_reverse_k4 (p := 13) rfl (by decide +kernel)
theorem dmX13_reverse_115 : decode cX13_reverse 115 = .ok (.iload 5, 2) := dw_at cX13_reverse_k4 (p := 15) rfl (by decide +kernel)
theorem dmX13_reverse_117 : decode cX13_reverse 117 = .ok (.aload_n 0, 1) := dw_at cX13_reverse_k4 (p := 17) rfl (by decide +kernel)
theorem dmX13_reverse_118 : decode cX13_reverse 118 = .ok (.getfield 114, 3) := dw_at cX13_reverse_k4 (p := 18) rfl (by decide +kernel)
theorem dmX13_reverse_121 : decode cX13_reverse 121 = .ok (.getfield 452, 3) := dw_at cX13_reverse_k4 (p := 21) rfl (by decide +kernel)
theorem dmX13_reverse_124 : decode cX13_reverse 124 = .ok (.iload_n 3, 1) := dw_at cX13_reverse_k5 (p := 0) rfl (by decide +kernel)
theorem dmX13_reverse_125 : decode cX13_reverse 125 = .ok (.iconst 1, 1) := dw_at cX13_reverse_k5 (p := 1) rfl (by decide +kernel)
theorem dmX13_reverse_126 : decode cX13_reverse 126 = .ok (.iadd, 1) := dw_at cX13_reverse_k5 (p := 2) rfl (by decide +kernel)
theorem dmX13_reverse_127 : decode cX13_reverse 127 = .ok (.iaload, 1) := dw_at cX13_reverse_k5 (p := 3) rfl (by decide +kernel)
theorem dmX13_reverse_128 : decode cX13_reverse 128 = .ok (.aload_n 0, 1) := dw_at cX13_reverse_k5 (p := 4) rfl (by decide +kernel)
theorem dmX13_reverse_129 : decode cX13_reverse 129 = .ok (.getfield 114, 3) := dw_at cX13_reverse_k5 (p := 5) rfl (by decide +kernel)
theorem dmX13_reverse_132 : decode cX13_reverse 132 = .ok (.getfield 452, 3) := dw_at cX13_reverse_k5 (p := 8) rfl (by decide +kernel)
theorem dmX13_reverse_135 : decode cX13_reverse 135 = .ok (.iload_n 3, 1) := dw_at cX13_reverse_k5 (p := 11) rfl (by decide +kernel)
theorem dmX13_reverse_136 : decode cX13_reverse 136 = .ok (.iaload, 1) := dw_at cX13_reverse_k5 (p := 12) rfl (by decide +kernel)
theorem dmX13_reverse_137 : decode cX13_reverse 137 = .ok (.isub, 1) := dw_at cX13_reverse_k5 (p := 13) rfl (by decide +kernel)
theorem dmX13_reverse_138 : decode cX13_reverse 138 = .ok (.if_icmp .ge 144, 3) := dw_at cX13_reverse_k5 (p := 14) rfl (by decide +kernel)
theorem dmX13_reverse_141 : decode cX13_reverse 141 = .ok (.iload 4, 2) := dw_at cX13_reverse_k5 (p := 17) rfl (by decide +kernel)
theorem dmX13_reverse_143 : decode cX13_reverse 143 = .ok (.ifCond .eq 22, 3) := dw_at cX13_reverse_k5 (p := 19) rfl (by decide +kernel)
theorem dmX13_reverse_146 : decode cX13_reverse 146 = .ok (.aload_n 0, 1) := dw_at cX13_reverse_k5 (p := 22) rfl (by decide +kernel)
theorem dmX13_reverse_147 : decode cX13_reverse 147 = .ok (.getfield 114, 3) := dw_at cX13_reverse_k5 (p := 23) rfl (by decide +kernel)
theorem dmX13_reverse_150 : decode cX13_reverse 150 = .ok (.getfield 452, 3) := dw_at cX13_reverse_k6 (p := 0) rfl (by decide +kernel)
theorem dmX13_reverse_153 : decode cX13_reverse 153 = .ok (.iload_n 3, 1) := dw_at cX13_reverse_k6 (p := 3) rfl (by decide +kernel)
theorem dmX13_reverse_154 : decode cX13_reverse 154 = .ok (.iconst 1, 1) := dw_at cX13_reverse_k6 (p := 4) rfl (by decide +kernel)
theorem dmX13_reverse_155 : decode cX13_reverse 155 = .ok (.iadd, 1) := dw_at cX13_reverse_k6 (p := 5) rfl (by decide +kernel)
theorem dmX13_reverse_156 : decode cX13_reverse 156 = .ok (.iaload, 1) := dw_at cX13_reverse_k6 (p := 6) rfl (by decide +kernel)
theorem dmX13_reverse_157 : decode cX13_reverse 157 = .ok (.iconst 1, 1) := dw_at cX13_reverse_k6 (p := 7) rfl (by decide +kernel)
theorem dmX13_reverse_158 : decode cX13_reverse 158 = .ok (.isub, 1) := dw_at cX13_reverse_k6 (p := 8) rfl (by decide +kernel)
theorem dmX13_reverse_159 : decode cX13_reverse 159 = .ok (.iload 5, 2) := dw_at cX13_reverse_k6 (p := 9) rfl (by decide +kernel)
theorem dmX13_reverse_161 : decode cX13_reverse 161 = .ok (.isub, 1) := dw_at cX13_reverse_k6 (p := 11) rfl (by decide +kernel)
theorem dmX13_reverse_162 : decode cX13_reverse 162 = .ok (.goto 15, 3) := dw_at cX13_reverse_k6 (p := 12) rfl (by decide +kernel)
theorem dmX13_reverse_165 : decode cX13_reverse 165 = .ok (.aload_n 0, 1) := dw_at cX13_reverse_k6 (p := 15) rfl (by decide +kernel)
theorem dmX13_reverse_166 : decode cX13_reverse 166 = .ok (.getfield 114, 3) := dw_at cX13_reverse_k6 (p := 16) rfl (by decide +kernel)
theorem dmX13_reverse_169 : decode cX13_reverse 169 = .ok (.getfield 452, 3) := dw_at cX13_reverse_k6 (p := 19) rfl (by decide +kernel)
theorem dmX13_reverse_172 : decode cX13_reverse 172 = .ok (.iload_n 3, 1) := dw_at cX13_reverse_k6 (p := 22) rfl (by decide +kernel)
theorem dmX13_reverse_173 : decode cX13_reverse 173 = .ok (.iaload, 1) := dw_at cX13_reverse_k6 (p := 23) rfl (by decide +kernel)
theorem dmX13_reverse_174 : decode cX13_reverse 174 = .ok (.iload 5, 2) := dw_at cX13_reverse_k7 (p := 0) rfl (by decide +kernel)
theorem dmX13_reverse_176 : decode cX13_reverse 176 = .ok (.iadd, 1) := dw_at cX13_reverse_k7 (p := 2) rfl (by decide +kernel)
theorem dmX13_reverse_177 : decode cX13_reverse 177 = .ok (.istore 6, 2) := dw_at cX13_reverse_k7 (p := 3) rfl (by decide +kernel)
theorem dmX13_reverse_179 : decode cX13_reverse 179 = .ok (.aload_n 0, 1) := dw_at cX13_reverse_k7 (p := 5) rfl (by decide +kernel)
theorem dmX13_reverse_180 : decode cX13_reverse 180 = .ok (.getfield 121, 3) := dw_at cX13_reverse_k7 (p := 6) rfl (by decide +kernel)
theorem dmX13_reverse_183 : decode cX13_reverse 183 = .ok (.aload_n 0, 1) := dw_at cX13_reverse_k7 (p := 9) rfl (by decide +kernel)
theorem dmX13_reverse_184 : decode cX13_reverse 184 = .ok (.getfield 114, 3) := dw_at cX13_reverse_k7 (p := 10) rfl (by decide +kernel)
theorem dmX13_reverse_187 : decode cX13_reverse 187 = .ok (.getfield 23, 3) := dw_at cX13_reverse_k7 (p := 13) rfl (by decide +kernel)
theorem dmX13_reverse_190 : decode cX13_reverse 190 = .ok (.iload 6, 2) := dw_at cX13_reverse_k7 (p := 16) rfl (by decide +kernel)
theorem dmX13_reverse_192 : decode cX13_reverse 192 = .ok (.iaload, 1) := dw_at cX13_reverse_k7 (p := 18) rfl (by decide +kernel)
theorem dmX13_reverse_193 : decode cX13_reverse 193 = .ok (.aload_n 0, 1) := dw_at cX13_reverse_k7 (p := 19) rfl (by decide +kernel)
theorem dmX13_reverse_194 : decode cX13_reverse 194 = .ok (.getfield 114, 3) := dw_at cX13_reverse_k7 (p := 20) rfl (by decide +kernel)
theorem dmX13_reverse_197 : decode cX13_reverse 197 = .ok (.getfield 32, 3) := dw_at cX13_reverse_k7 (p := 23) rfl (by decide +kernel)
theorem dmX13_reverse_200 : decode cX13_reverse 200 = .ok (.iload 6, 2) := dw_at cX13_reverse_k8 (p := 0) rfl (by decide +kernel)
theorem dmX13_reverse_202 : decode cX13_reverse 202 = .ok (.iaload, 1) := dw_at cX13_reverse_k8 (p := 2) rfl (by decide +kernel)
theorem dmX13_reverse_203 : decode cX13_reverse 203 = .ok (.invokevirtual 97, 3) := dw_at cX13_reverse_k8 (p := 3) rfl (by decide +kernel)
theorem dmX13_reverse_206 : decode cX13_reverse 206 = .ok (.iload 4, 2) := dw_at cX13_reverse_k8 (p := 6) rfl (by decide +kernel)
theorem dmX13_reverse_208 : decode cX13_reverse 208 = .ok (.ifCond .eq 68, 3) := dw_at cX13_reverse_k8 (p := 8) rfl (by decide +kernel)
theorem dmX13_reverse_211 : decode cX13_reverse 211 = .ok (.iload_n 2, 1) := dw_at cX13_reverse_k8 (p := 11) rfl (by decide +kernel)
theorem dmX13_reverse_212 : decode cX13_reverse 212 = .ok (.iconst (-1), 1) := dw_at cX13_reverse_k8 (p := 12) rfl (by decide +kernel)
theorem dmX13_reverse_213 : decode cX13_reverse 213 = .ok (.if_icmp .eq 63, 3) := dw_at cX13_reverse_k8 (p := 13) rfl (by decide +kernel)
theorem dmX13_reverse_216 : decode cX13_reverse 216 = .ok (.aload_n 0, 1) := dw_at cX13_reverse_k8 (p := 16) rfl (by decide +kernel)
theorem dmX13_reverse_217 : decode cX13_reverse 217 = .ok (.getfield 114, 3) := dw_at cX13_reverse_k8 (p := 17) rfl (by decide +kernel)
theorem dmX13_reverse_220 : decode cX13_reverse 220 = .ok (.getfield 18, 3) := dw_at cX13_reverse_k8 (p := 20) rfl (by decide +kernel)
theorem dmX13_reverse_223 : decode cX13_reverse 223 = .ok (.aload_n 0, 1) := dw_at cX13_reverse_k8 (p := 23) rfl (by decide +kernel)
theorem dmX13_reverse_224 : decode cX13_reverse 224 = .ok (.getfield 114, 3) := dw_at cX13_reverse_k9 (p := 0) rfl (by decide +kernel)
theorem dmX13_reverse_227 : decode cX13_reverse 227 = .ok (.getfield 41, 3) := dw_at cX13_reverse_k9 (p := 3) rfl (by decide +kernel)
theorem dmX13_reverse_230 : decode cX13_reverse 230 = .ok (.iload 6, 2) := dw_at cX13_reverse_k9 (p := 6) rfl (by decide +kernel)
theorem dmX13_reverse_232 : decode cX13_reverse 232 = .ok (.iaload, 1) := dw_at cX13_reverse_k9 (p := 8) rfl (by decide +kernel)
theorem dmX13_reverse_233 : decode cX13_reverse 233 = .ok (.iaload, 1) := dw_at cX13_reverse_k9 (p := 9) rfl (by decide +kernel)
theorem dmX13_reverse_234 : decode cX13_reverse 234 = .ok (.iload_n 3, 1) := dw_at cX13_reverse_k9 (p := 10) rfl (by decide +kernel)
theorem dmX13_reverse_235 : decode cX13_reverse 235 = .ok (.if_icmp .eq 41, 3) := dw_at cX13_reverse_k9 (p := 11) rfl (by decide +kernel)
theorem dmX13_reverse_238 : decode cX13_reverse 238 = .ok (.aload_n 0, 1) := dw_at cX13_reverse_k9 (p := 14) rfl (by decide +kernel)
theorem dmX13_reverse_239 : decode cX13_reverse 239 = .ok (.getfield 121, 3) := dw_at cX13_reverse_k9 (p := 15) rfl (by decide +kernel)
theorem dmX13_reverse_242 : decode cX13_reverse 242 = .ok (.getfield 35, 3) := dw_at cX13_reverse_k9 (p := 18) rfl (by decide +kernel)
theorem dmX13_reverse_245 : decode cX13_reverse 245 = .ok (.aload_n 0, 1) := dw_at cX13_reverse_k9 (p := 21) rfl (by decide +kernel)
theorem dmX13_reverse_246 : decode cX13_reverse 246 = .ok (.getfield 114, 3) := dw_at cX13_reverse_k9 (p := 22) rfl (by decide +kernel)
theorem dmX13_reverse_249 : decode cX13_reverse 249 = .ok (.getfield 23, 3) := dw_at cX13_reverse_k10 (p := 0) rfl (by decide +kernel)
theorem dmX13_reverse_252 : decode cX13_reverse 252 = .ok (.iload 6, 2) := dw_at cX13_reverse_k10 (p := 3) rfl (by decide +kernel)
theorem dmX13_reverse_254 : decode cX13_reverse 254 = .ok (.iaload, 1) := dw_at cX13_reverse_k10 (p := 5) rfl (by decide +kernel)
theorem dmX13_reverse_255 : decode cX13_reverse 255 = .ok (.iconst 0, 1) := dw_at cX13_reverse_k10 (p := 6) rfl (by decide +kernel)
theorem dmX13_reverse_256 : decode cX13_reverse 256 = .ok (.aload_n 0, 1) := dw_at cX13_reverse_k10 (p := 7) rfl (by decide +kernel)
theorem dmX13_reverse_257 : decode cX13_reverse 257 = .ok (.getfield 114, 3) := dw_at cX13_reverse_k10 (p := 8) rfl (by decide +kernel)
theorem dmX13_reverse_260 : decode cX13_reverse 260 = .ok (.getfield 35, 3) := dw_at cX13_reverse_k10 (p := 11) rfl (by decide +kernel)
theorem dmX13_reverse_263 : decode cX13_reverse 263 = .ok (.aload_n 0, 1) := dw_at cX13_reverse_k10 (p := 14) rfl (by decide +kernel)
theorem dmX13_reverse_264 : decode cX13_reverse 264 = .ok (.getfield 114, 3) := dw_at cX13_reverse_k10 (p := 15) rfl (by decide +kernel)
theorem dmX13_reverse_267 : decode cX13_reverse 267 = .ok (.getfield 23, 3) := dw_at cX13_reverse_k10 (p := 18) rfl (by decide +kernel)
theorem dmX13_reverse_270 : decode cX13_reverse 270 = .ok (.iload 6, 2) := dw_at cX13_reverse_k10 (p := 21) rfl (by decide +kernel)
theorem dmX13_reverse_272 : decode cX13_reverse 272 = .ok (.iaload, 1) := dw_at cX13_reverse_k10 (p := 23) rfl (by decide +kernel)
theorem dmX13_reverse_273 : decode cX13_reverse 273 = .ok (.iaload, 1) := dw_at cX13_reverse_k11 (p := 0) rfl (by decide +kernel)
theorem dmX13_reverse_274 : decode cX13_reverse 274 = .ok (.isub, 1) := dw_at cX13_reverse_k11 (p := 1) rfl (by decide +kernel)
theorem dmX13_reverse_275 : decode cX13_reverse 275 = .ok (.iastore, 1) := dw_at cX13_reverse_k11 (p := 2) rfl (by decide +kernel)
theorem dmX13_reverse_276 : decode cX13_reverse 276 = .ok (.iinc 5 1, 3) := dw_at cX13_reverse_k11 (p := 3) rfl (by decide +kernel)
theorem dmX13_reverse_279 : decode cX13_reverse 279 = .ok (.goto (-164), 3) := dw_at cX13_reverse_k11 (p := 6) rfl (by decide +kernel)
theorem dmX13_reverse_282 : decode cX13_reverse 282 = .ok (.aload_n 0, 1) := dw_at cX13_reverse_k11 (p := 9) rfl (by decide +kernel)
theorem dmX13_reverse_283 : decode cX13_reverse 283 = .ok (.getfield 121, 3) := dw_at cX13_reverse_k11 (p := 10) rfl (by decide +kernel)
theorem dmX13_reverse_286 : decode cX13_reverse 286 = .ok (.invokevirtual 94, 3) := dw_at cX13_reverse_k11 (p := 13) rfl (by decide +kernel)
theorem dmX13_reverse_289 : decode cX13_reverse 289 = .ok (.iinc 3 1, 3) := dw_at cX13_reverse_k11 (p := 16) rfl (by decide +kernel)
theorem dmX13_reverse_292 : decode cX13_reverse 292 = .ok (.goto (-208), 3) := dw_at cX13_reverse_k11 (p := 19) rfl (by decide +kernel)
theorem dmX13_reverse_295 : decode cX13_reverse 295 = .ok (.aload_n 0, 1) := dw_at cX13_reverse_k11 (p := 22) rfl (by decide +kernel)
theorem dmX13_reverse_296 : decode cX13_reverse 296 = .ok (.invokevirtual 420, 3) := dw_at cX13_reverse_k11 (p := 23) rfl (by decide +kernel)
theorem dmX13_reverse_299 : decode cX13_reverse 299 = .ok (.ireturn, 1) := dw_at cX13_reverse_k11 (p := 26) rfl (by decide +kernel)
def qm_X13_reverse_0 (K : Nat) (go : Nat → Int32 → Int32 → Int32 → Int32 → Int32 → Int32 → Int32 → ow_MS → Option (Int32 × ow_MS)) (x1 : Int32) (x2 : Int32) (x3 : Int32) (x4 : Int32) (x5 : Int32) (x6 : Int32) (t0 : Int32) (z : ow_MS) : Option (Int32 × ow_MS) :=
 wrF z 1 0 fun z1 => cs1 (qe_X13_has K x1 z1) fun v3 z2 => (if v3 = 0 then cs1 (qe_X13_fails K 1 z2) fun v13 z12 => some (v13, z12)
 else cs0 (qe_X13_open K x1 1000 z2) fun z4 => (if x2 < (-1) then go 1 x1 x2 0 0 0 0 0 z4
 else rdF z4 (1000 + 2) fun v5 => (if x2 < v5 then cs1 (qe_X13_free K z4) fun v7 z6 => (if v7 = (-1) then cs1 (qe_X13_fails K 2 z6) fun v11 z10 => some (v11, z10)
 else cs0 (qe_X12_clear K 3000 z6) fun z8 => cs0 (qe_X12_signsOf K 3000 1000 z8) fun z9 => go 2 x1 x2 0 0 0 0 0 z9)
 else go 1 x1 x2 0 0 0 0 0 z4)))
def qm_X13_reverse_1 (K : Nat) (go : Nat → Int32 → Int32 → Int32 → Int32 → Int32 → Int32 → Int32 → ow_MS → Option (Int32 × ow_MS)) (x1 : Int32) (x2 : Int32) (x3 : Int32) (x4 : Int32) (x5 : Int32) (x6 : Int32) (t0 : Int32) (z : ow_MS) : Option (Int32 × ow_MS) :=
 cs1 (qe_X13_fails K 1 z) fun v15 z14 => some (v15, z14)
def qm_X13_reverse_2 (K : Nat) (go : Nat → Int32 → Int32 → Int32 → Int32 → Int32 → Int32 → Int32 → ow_MS → Option (Int32 × ow_MS)) (x1 : Int32) (x2 : Int32) (x3 : Int32) (x4 : Int32) (x5 : Int32) (x6 : Int32) (t0 : Int32) (z : ow_MS) : Option (Int32 × ow_MS) :=
 rdF z (1000 + 2) fun v16 => (if v16 ≤ x3 then cs1 (qe_X13_keep K z) fun v18 z17 => some (v18, z17)
 else (if x2 = (-1) then go 3 x1 x2 x3 0 0 0 0 z
 else (if x2 = x3 then go 3 x1 x2 x3 0 0 0 0 z
 else go 4 x1 x2 x3 0 0 0 0 z)))
def qm_X13_reverse_3 (K : Nat) (go : Nat → Int32 → Int32 → Int32 → Int32 → Int32 → Int32 → Int32 → ow_MS → Option (Int32 × ow_MS)) (x1 : Int32) (x2 : Int32) (x3 : Int32) (x4 : Int32) (x5 : Int32) (x6 : Int32) (t0 : Int32) (z : ow_MS) : Option (Int32 × ow_MS) :=
 go 4 x1 x2 x3 0 0 0 1 z
def qm_X13_reverse_4 (K : Nat) (go : Nat → Int32 → Int32 → Int32 → Int32 → Int32 → Int32 → Int32 → ow_MS → Option (Int32 × ow_MS)) (x1 : Int32) (x2 : Int32) (x3 : Int32) (x4 : Int32) (x5 : Int32) (x6 : Int32) (t0 : Int32) (z : ow_MS) : Option (Int32 × ow_MS) :=
 go 5 x1 x2 x3 t0 0 0 0 z
def qm_X13_reverse_5 (K : Nat) (go : Nat → Int32 → Int32 → Int32 → Int32 → Int32 → Int32 → Int32 → ow_MS → Option (Int32 × ow_MS)) (x1 : Int32) (x2 : Int32) (x3 : Int32) (x4 : Int32) (x5 : Int32) (x6 : Int32) (t0 : Int32) (z : ow_MS) : Option (Int32 × ow_MS) :=
 rdI mX z (1000 + 3) (x3 + 1) fun v19 => rdI mX z (1000 + 3) x3 fun v20 => (if (v19 - v20) ≤ x5 then cs0 (qe_X12_end K 3000 z) fun z21 => go 2 x1 x2 (x3 + 1) 0 0 0 0 z21
 else (if x4 = 0 then rdI mX z (1000 + 3) x3 fun v22 => go 6 x1 x2 x3 x4 x5 0 (v22 + x5) z
 else rdI mX z (1000 + 3) (x3 + 1) fun v23 => go 6 x1 x2 x3 x4 x5 0 ((v23 - 1) - x5) z))
def qm_X13_reverse_6 (K : Nat) (go : Nat → Int32 → Int32 → Int32 → Int32 → Int32 → Int32 → Int32 → ow_MS → Option (Int32 × ow_MS)) (x1 : Int32) (x2 : Int32) (x3 : Int32) (x4 : Int32) (x5 : Int32) (x6 : Int32) (t0 : Int32) (z : ow_MS) : Option (Int32 × ow_MS) :=
 rdI mX z (1000 + 4) t0 fun v24 => rdI mX z (1000 + 5) t0 fun v25 => cs0 (qe_X12_add K 3000 v24 v25 z) fun z26 => (if x4 = 0 then go 7 x1 x2 x3 x4 x5 t0 0 z26
 else (if x2 = (-1) then go 7 x1 x2 x3 x4 x5 t0 0 z26
 else rdI mX z26 (1000 + 7) t0 fun v27 => rdI mX z26 (1000 + 8) v27 fun v28 => (if v28 = x3 then go 7 x1 x2 x3 x4 x5 t0 0 z26
 else rdI mX z26 (1000 + 4) t0 fun v29 => rdI mX z26 (1000 + 4) t0 fun v30 => rdI mX z26 (1000 + 6) v30 fun v31 => wrI mX z26 (3000 + 6) v29 (0 - v31) fun z32 => go 7 x1 x2 x3 x4 x5 t0 0 z32)))
def qm_X13_reverse_7 (K : Nat) (go : Nat → Int32 → Int32 → Int32 → Int32 → Int32 → Int32 → Int32 → ow_MS → Option (Int32 × ow_MS)) (x1 : Int32) (x2 : Int32) (x3 : Int32) (x4 : Int32) (x5 : Int32) (x6 : Int32) (t0 : Int32) (z : ow_MS) : Option (Int32 × ow_MS) :=
 go 5 x1 x2 x3 x4 (x5 + 1) 0 0 z
def qb_X13_reverse (K : Nat) (go : Nat → Int32 → Int32 → Int32 → Int32 → Int32 → Int32 → Int32 → ow_MS → Option (Int32 × ow_MS)) (L : Nat) (x1 : Int32) (x2 : Int32) (x3 : Int32) (x4 : Int32) (x5 : Int32) (x6 : Int32) (t0 : Int32) (z : ow_MS) : Option (Int32 × ow_MS) := match L with
  | 0 => qm_X13_reverse_0 K go x1 x2 x3 x4 x5 x6 t0 z
  | 1 => qm_X13_reverse_1 K go x1 x2 x3 x4 x5 x6 t0 z
  | 2 => qm_X13_reverse_2 K go x1 x2 x3 x4 x5 x6 t0 z
  | 3 => qm_X13_reverse_3 K go x1 x2 x3 x4 x5 x6 t0 z
  | 4 => qm_X13_reverse_4 K go x1 x2 x3 x4 x5 x6 t0 z
  | 5 => qm_X13_reverse_5 K go x1 x2 x3 x4 x5 x6 t0 z
  | 6 => qm_X13_reverse_6 K go x1 x2 x3 x4 x5 x6 t0 z
  | 7 => qm_X13_reverse_7 K go x1 x2 x3 x4 x5 x6 t0 z
  | _ => none
def q_X13_reverse (K : Nat) : Nat → Nat → Int32 → Int32 → Int32 → Int32 → Int32 → Int32 → Int32 → ow_MS → Option (Int32 × ow_MS)
  | 0 => fun _ _ _ _ _ _ _ _ _ => none
  | k + 1 => qb_X13_reverse K (q_X13_reverse K k)
def qe_X13_reverse (K : Nat) (x1 : Int32) (x2 : Int32) (z : ow_MS) : Option (Int32 × ow_MS) := q_X13_reverse K K 0 x1 x2 0 0 0 0 0 z
abbrev wm_X13_reverse : List Cond := .code yX13_reverse cX13_reverse 7 (some .int) :: wM
theorem cd_X13_reverse : yX13_reverse.cls = RX13 ∧ yX13_reverse.cls ≠ "java/lang/invoke/MethodHandle" ∧ yX13_reverse.cls ≠ "java/lang/invoke/VarHandle" ∧ (parseMethodDescriptor yX13_reverse.desc).map (fun d => d.parameters.length) = some 2 := by decide +kernel
set_option maxHeartbeats 4000000 in
set_option maxRecDepth 100000 in
theorem km_X13_reverse (l : Launch) (D : va_G) (q : ow_Q5) (u : Nat → Nat) (hU : tw_inj mX u) (K : Nat) (x1 : Int32) (x2 : Int32)  (z z1 : ow_MS) (r : Int32) (hq : qe_X13_reverse K x1 x2 z = some (r, z1)) : Met l yX13_reverse wm_X13_reverse ({ frames := 5, cells := 0, slots := 0, locals := 132 } : Room) (va_Pc [.ref (u 0), .int x1, .int x2] (mw_pre D q u z)) (va_Qi (fun x (_ : Unit) => x = r) (fun _ t => va_P D vwCl (tw mX q u z1) t.heap) (tw_A mX u)) 0 0 (tw_A mX u) := by
  refine Met.ofW (cc := cX13_reverse) (maxL := 7) (ret := (some .int)) (by decide) rfl ?_
  intro p e s m args below meth c s₁ B hml hv
  obtain ⟨rfl, hP, hK, hN⟩ := hv
  have hx := B.exec
  have hb := B.bytes
  have hr := B.returns
  have hts := atoms_spec (ws := wm_X13_reverse) B.pre
  have hT : ∀ w ∈ wM, w.before ([.ref (u 0), .int x1, .int x2] : List Value).toArray s = true := fun w h => hts w (List.mem_cons_of_mem _ h)
  have hown : s.vm.findClass RX13 = some m.cls := findClass_of_methodNamed B.named
  have hlocks := B.notSynchronized
  have hM : tw_M D vwCl mX q s.heap u z s.heap [] := ⟨hP, va_S.rf⟩
  have hl := lv_entry ([.ref (u 0), .int x1, .int x2]) (n := 7) (Nat.le_of_ble_eq_true rfl)
  rw [lg_entry_eq]
  generalize (lg_sl ([.ref (u 0), .int x1, .int x2]) ++ List.replicate (7 - (lg_sl ([.ref (u 0), .int x1, .int x2])).length) Slot.unset).toArray = ls at hl ⊢
  have hl : lv_has ls 7 [(0, .ref (u 0)), (1, .int x1), (2, .int x2)] := hl
  refine ow_named (fun QQ hQQ => ?_)
  generalize ([.ref (u 0), .int x1, .int x2] : List Value).toArray = args at hts hT hQQ ⊢
  have key : ∀ k : Nat, (∀ (x1 : Int32) (x2 : Int32) (x3 : Int32) (x4 : Int32) (x5 : Int32) (x6 : Int32) (t0 : Int32) (z : ow_MS) (H : Heap) (locs : List Loc) (ls : Array Slot), tw_M D vwCl mX q s.heap u z H locs → lv_has ls 7 [(0, .ref (u 0)), (1, .int x1), (2, .int x2)] → q_X13_reverse K k 0 x1 x2 x3 x4 x5 x6 t0 z = some (r, z1) → W p l e ({ frames := 5, cells := 0, slots := 0, locals := 132 } : Room) s m args below meth c H locs 0 0 QQ (F0 m 0 ls [])) ∧ (∀ (x1 : Int32) (x2 : Int32) (x3 : Int32) (x4 : Int32) (x5 : Int32) (x6 : Int32) (t0 : Int32) (z : ow_MS) (H : Heap) (locs : List Loc) (ls : Array Slot), tw_M D vwCl mX q s.heap u z H locs → lv_has ls 7 [(0, .ref (u 0)), (1, .int x1), (2, .int x2)] → q_X13_reverse K k 1 x1 x2 x3 x4 x5 x6 t0 z = some (r, z1) → W p l e ({ frames := 5, cells := 0, slots := 0, locals := 132 } : Room) s m args below meth c H locs 0 0 QQ (F0 m 44 ls [])) ∧ (∀ (x1 : Int32) (x2 : Int32) (x3 : Int32) (x4 : Int32) (x5 : Int32) (x6 : Int32) (t0 : Int32) (z : ow_MS) (H : Heap) (locs : List Loc) (ls : Array Slot), tw_M D vwCl mX q s.heap u z H locs → lv_has ls 7 [(0, .ref (u 0)), (1, .int x1), (2, .int x2), (3, .int x3)] → q_X13_reverse K k 2 x1 x2 x3 x4 x5 x6 t0 z = some (r, z1) → W p l e ({ frames := 5, cells := 0, slots := 0, locals := 132 } : Room) s m args below meth c H locs 0 0 QQ (F0 m 84 ls [])) ∧ (∀ (x1 : Int32) (x2 : Int32) (x3 : Int32) (x4 : Int32) (x5 : Int32) (x6 : Int32) (t0 : Int32) (z : ow_MS) (H : Heap) (locs : List Loc) (ls : Array Slot), tw_M D vwCl mX q s.heap u z H locs → lv_has ls 7 [(0, .ref (u 0)), (1, .int x1), (2, .int x2), (3, .int x3)] → q_X13_reverse K k 3 x1 x2 x3 x4 x5 x6 t0 z = some (r, z1) → W p l e ({ frames := 5, cells := 0, slots := 0, locals := 132 } : Room) s m args below meth c H locs 0 0 QQ (F0 m 105 ls [])) ∧ (∀ (x1 : Int32) (x2 : Int32) (x3 : Int32) (x4 : Int32) (x5 : Int32) (x6 : Int32) (t0 : Int32) (z : ow_MS) (H : Heap) (locs : List Loc) (ls : Array Slot), tw_M D vwCl mX q s.heap u z H locs → lv_has ls 7 [(0, .ref (u 0)), (1, .int x1), (2, .int x2), (3, .int x3)] → q_X13_reverse K k 4 x1 x2 x3 x4 x5 x6 t0 z = some (r, z1) → W p l e ({ frames := 5, cells := 0, slots := 0, locals := 132 } : Room) s m args below meth c H locs 0 0 QQ (F0 m 110 ls [.int t0])) ∧ (∀ (x1 : Int32) (x2 : Int32) (x3 : Int32) (x4 : Int32) (x5 : Int32) (x6 : Int32) (t0 : Int32) (z : ow_MS) (H : Heap) (locs : List Loc) (ls : Array Slot), tw_M D vwCl mX q s.heap u z H locs → lv_has ls 7 [(0, .ref (u 0)), (1, .int x1), (2, .int x2), (3, .int x3), (4, .int x4), (5, .int x5)] → q_X13_reverse K k 5 x1 x2 x3 x4 x5 x6 t0 z = some (r, z1) → W p l e ({ frames := 5, cells := 0, slots := 0, locals := 132 } : Room) s m args below meth c H locs 0 0 QQ (F0 m 115 ls [])) ∧ (∀ (x1 : Int32) (x2 : Int32) (x3 : Int32) (x4 : Int32) (x5 : Int32) (x6 : Int32) (t0 : Int32) (z : ow_MS) (H : Heap) (locs : List Loc) (ls : Array Slot), tw_M D vwCl mX q s.heap u z H locs → lv_has ls 7 [(0, .ref (u 0)), (1, .int x1), (2, .int x2), (3, .int x3), (4, .int x4), (5, .int x5)] → q_X13_reverse K k 6 x1 x2 x3 x4 x5 x6 t0 z = some (r, z1) → W p l e ({ frames := 5, cells := 0, slots := 0, locals := 132 } : Room) s m args below meth c H locs 0 0 QQ (F0 m 177 ls [.int t0])) ∧ (∀ (x1 : Int32) (x2 : Int32) (x3 : Int32) (x4 : Int32) (x5 : Int32) (x6 : Int32) (t0 : Int32) (z : ow_MS) (H : Heap) (locs : List Loc) (ls : Array Slot), tw_M D vwCl mX q s.heap u z H locs → lv_has ls 7 [(0, .ref (u 0)), (1, .int x1), (2, .int x2), (3, .int x3), (4, .int x4), (5, .int x5), (6, .int x6)] → q_X13_reverse K k 7 x1 x2 x3 x4 x5 x6 t0 z = some (r, z1) → W p l e ({ frames := 5, cells := 0, slots := 0, locals := 132 } : Room) s m args below meth c H locs 0 0 QQ (F0 m 276 ls [])) := by
    intro k
    induction k with
    | zero => exact ⟨fun _ _ _ _ _ _ _ _ _ _ _  _ _ hq => tw_no hq, fun _ _ _ _ _ _ _ _ _ _ _  _ _ hq => tw_no hq, fun _ _ _ _ _ _ _ _ _ _ _  _ _ hq => tw_no hq, fun _ _ _ _ _ _ _ _ _ _ _  _ _ hq => tw_no hq, fun _ _ _ _ _ _ _ _ _ _ _  _ _ hq => tw_no hq, fun _ _ _ _ _ _ _ _ _ _ _  _ _ hq => tw_no hq, fun _ _ _ _ _ _ _ _ _ _ _  _ _ hq => tw_no hq, fun _ _ _ _ _ _ _ _ _ _ _  _ _ hq => tw_no hq⟩
    | succ k ih =>
      obtain ⟨ih_0, ih_1, ih_2, ih_3, ih_4, ih_5, ih_6, ih_7⟩ := ih
      refine ⟨?_, ?_, ?_, ?_, ?_, ?_, ?_, ?_⟩
      · intro x1 x2 x3 x4 x5 x6 t0 z H locs ls  hM hl hq
        have hq : qm_X13_reverse_0 K (q_X13_reverse K k) x1 x2 x3 x4 x5 x6 t0 z = some (r, z1) := hq
        unfold qm_X13_reverse_0 at hq
        refine lv_aload_n hx hb dmX13_reverse_0 rfl (lv_at hl 0 rfl) ?_
        refine lv_iconst (v := 0) hx hb dmX13_reverse_1 (by decide) ?_
        refine mp13_1 hx hb hT hown hK hM hU hq dmX13_reverse_2 (fun z1 H locs hM hq => ?_)
        refine lv_aload_n hx hb dmX13_reverse_5 rfl (lv_at hl 0 rfl) ?_
        refine lv_iload_n hx hb dmX13_reverse_6 rfl (lv_at hl 1 rfl) ?_
        obtain ⟨v3, z2, hcq, hq⟩ := tw_cl1 hq
        refine tw_cali hM (va_runV (As := [.int x1]) (rest := []) ⟨hx, hb, hml, hown, hts⟩ (km_X13_has l D q u hU K x1 z1 z2 v3 hcq) (cwV 1 hts (tw_gV wM_good wq_127 wq_128 wq_129 wq_61 wq_90) rfl rfl rfl cd_X13_has ⟨(Nat.le_of_ble_eq_true rfl), (Nat.le_of_ble_eq_true rfl)⟩) (mw_preV hK hN hM mo_0 rfl) rfl rfl hl.1 rfl (lv_room (Nat.le_of_ble_eq_true rfl)) dmX13_reverse_7 ⟨(Nat.le_of_ble_eq_true rfl), (Nat.le_of_ble_eq_true rfl)⟩) (fun H locs hM => ?_)
        refine lv_if_ne (tgt := 19) hx hb dmX13_reverse_10 (by decide) (fun hc => ?_) (fun hc => ?_)
        · have hq := tw_if hq hc
          refine lv_aload_n hx hb dmX13_reverse_19 rfl (lv_at hl 0 rfl) ?_
          refine lv_iload_n hx hb dmX13_reverse_20 rfl (lv_at hl 1 rfl) ?_
          refine lv_aload_n hx hb dmX13_reverse_21 rfl (lv_at hl 0 rfl) ?_
          refine mg13_114 hx hb hT hown hK hM dmX13_reverse_22 ?_
          obtain ⟨z4, hcq, hq⟩ := tw_cl0 hq
          refine tw_calv hM (va_runV (As := [.int x1, .ref (u 1000)]) (rest := []) ⟨hx, hb, hml, hown, hts⟩ (km_X13_open l D q u hU K x1 1000 mw_n1 z2 z4 hcq) (cwV 2 hts (tw_gV wM_good wq_138 wq_139 wq_140 wq_61 wq_136) rfl rfl rfl cd_X13_open ⟨(Nat.le_of_ble_eq_true rfl), (Nat.le_of_ble_eq_true rfl)⟩) (mw_preV hK hN hM mo_0 rfl) rfl rfl hl.1 rfl (lv_room (Nat.le_of_ble_eq_true rfl)) dmX13_reverse_25 ⟨(Nat.le_of_ble_eq_true rfl), (Nat.le_of_ble_eq_true rfl)⟩) (fun H locs hM => ?_)
          refine lv_iload_n hx hb dmX13_reverse_28 rfl (lv_at hl 2 rfl) ?_
          refine lv_iconst (v := (-1)) hx hb dmX13_reverse_29 (by decide) ?_
          refine lv_icmp_lt (tgt := 44) hx hb dmX13_reverse_30 (by decide) (fun hc => ?_) (fun hc => ?_)
          · have hq := tw_it hq hc
            exact ih_1 x1 x2 0 0 0 0 0 z4 H locs ls hM (lv_sub hl [0, 1, 2] rfl) hq
          · have hq := tw_if hq hc
            refine lv_iload_n hx hb dmX13_reverse_33 rfl (lv_at hl 2 rfl) ?_
            refine lv_aload_n hx hb dmX13_reverse_34 rfl (lv_at hl 0 rfl) ?_
            refine mg13_114 hx hb hT hown hK hM dmX13_reverse_35 ?_
            refine mg13_407 hx hb hT hown hK hM hN mw_n1 hq dmX13_reverse_38 (fun v5 hq => ?_)
            refine lv_icmp_lt (tgt := 50) hx hb dmX13_reverse_41 (by decide) (fun hc => ?_) (fun hc => ?_)
            · have hq := tw_it hq hc
              refine lv_aload_n hx hb dmX13_reverse_50 rfl (lv_at hl 0 rfl) ?_
              obtain ⟨v7, z6, hcq, hq⟩ := tw_cl1 hq
              refine tw_cali hM (va_runV (As := []) (rest := []) ⟨hx, hb, hml, hown, hts⟩ (km_X13_free l D q u hU K z4 z6 v7 hcq) (cwV 0 hts (tw_gV wM_good wq_93 wq_94 wq_95 wq_61 wq_91) rfl rfl rfl cd_X13_free ⟨(Nat.le_of_ble_eq_true rfl), (Nat.le_of_ble_eq_true rfl)⟩) (mw_preV hK hN hM mo_0 rfl) rfl rfl hl.1 rfl (lv_room (Nat.le_of_ble_eq_true rfl)) dmX13_reverse_51 ⟨(Nat.le_of_ble_eq_true rfl), (Nat.le_of_ble_eq_true rfl)⟩) (fun H locs hM => ?_)
              refine lv_iconst (v := (-1)) hx hb dmX13_reverse_54 (by decide) ?_
              refine lv_icmp_ne (tgt := 64) hx hb dmX13_reverse_55 (by decide) (fun hc => ?_) (fun hc => ?_)
              · have hq := tw_if hq hc
                refine lv_aload_n hx hb dmX13_reverse_64 rfl (lv_at hl 0 rfl) ?_
                refine mg13_121 hx hb hT hown hK hM dmX13_reverse_65 ?_
                obtain ⟨z8, hcq, hq⟩ := tw_cl0 hq
                refine tw_calv hM (va_runV (As := []) (rest := []) ⟨hx, hb, hml, hown, hts⟩ (km_X12_clear l D q u hU K 3000 mw_n3 z6 z8 hcq) (cwV 0 hts (tw_gV wM_good wq_85 wq_11 wq_12 wq_13 wq_3) rfl rfl rfl cd_X12_clear ⟨(Nat.le_of_ble_eq_true rfl), (Nat.le_of_ble_eq_true rfl)⟩) (mw_preV hK hN hM (mo_n mw_n3) rfl) rfl rfl hl.1 rfl (lv_room (Nat.le_of_ble_eq_true rfl)) dmX13_reverse_68 ⟨(Nat.le_of_ble_eq_true rfl), (Nat.le_of_ble_eq_true rfl)⟩) (fun H locs hM => ?_)
                refine lv_aload_n hx hb dmX13_reverse_71 rfl (lv_at hl 0 rfl) ?_
                refine mg13_121 hx hb hT hown hK hM dmX13_reverse_72 ?_
                refine lv_aload_n hx hb dmX13_reverse_75 rfl (lv_at hl 0 rfl) ?_
                refine mg13_114 hx hb hT hown hK hM dmX13_reverse_76 ?_
                obtain ⟨z9, hcq, hq⟩ := tw_cl0 hq
                refine tw_calv hM (va_runV (As := [.ref (u 1000)]) (rest := []) ⟨hx, hb, hml, hown, hts⟩ (km_X12_signsOf l D q u hU K 3000 1000 mw_n3 mw_n1 z8 z9 hcq) (cwV 1 hts (tw_gV wM_good wq_153 wq_21 wq_22 wq_13 wq_9) rfl rfl rfl cd_X12_signsOf ⟨(Nat.le_of_ble_eq_true rfl), (Nat.le_of_ble_eq_true rfl)⟩) (mw_preV hK hN hM (mo_n mw_n3) rfl) rfl rfl hl.1 rfl (lv_room (Nat.le_of_ble_eq_true rfl)) dmX13_reverse_79 ⟨(Nat.le_of_ble_eq_true rfl), (Nat.le_of_ble_eq_true rfl)⟩) (fun H locs hM => ?_)
                refine lv_iconst (v := 0) hx hb dmX13_reverse_82 (by decide) ?_
                refine lv_istore_n (lv' := [(3, .int 0), (0, .ref (u 0)), (1, .int x1), (2, .int x2)]) hx hb dmX13_reverse_83 rfl hl (by decide) rfl (fun ls hl => ?_)
                exact ih_2 x1 x2 0 0 0 0 0 z9 H locs ls hM (lv_sub hl [1, 2, 3, 0] rfl) hq
              · have hq := tw_it hq hc
                refine lv_aload_n hx hb dmX13_reverse_58 rfl (lv_at hl 0 rfl) ?_
                refine lv_iconst (v := 2) hx hb dmX13_reverse_59 (by decide) ?_
                obtain ⟨v11, z10, hcq, hq⟩ := tw_cl1 hq
                refine tw_cali hM (va_runV (As := [.int 2]) (rest := []) ⟨hx, hb, hml, hown, hts⟩ (km_X13_fails l D q u hU K 2 z6 z10 v11 hcq) (cwV 1 hts (tw_gV wM_good wq_103 wq_104 wq_105 wq_61 wq_50) rfl rfl rfl cd_X13_fails ⟨(Nat.le_of_ble_eq_true rfl), (Nat.le_of_ble_eq_true rfl)⟩) (mw_preV hK hN hM mo_0 rfl) rfl rfl hl.1 rfl (lv_room (Nat.le_of_ble_eq_true rfl)) dmX13_reverse_60 ⟨(Nat.le_of_ble_eq_true rfl), (Nat.le_of_ble_eq_true rfl)⟩) (fun H locs hM => ?_)
                exact mw_iret hx hb hr hlocks hM hq hQQ dmX13_reverse_63
            · have hq := tw_if hq hc
              exact ih_1 x1 x2 0 0 0 0 0 z4 H locs ls hM (lv_sub hl [0, 1, 2] rfl) hq
        · have hq := tw_it hq hc
          refine lv_aload_n hx hb dmX13_reverse_13 rfl (lv_at hl 0 rfl) ?_
          refine lv_iconst (v := 1) hx hb dmX13_reverse_14 (by decide) ?_
          obtain ⟨v13, z12, hcq, hq⟩ := tw_cl1 hq
          refine tw_cali hM (va_runV (As := [.int 1]) (rest := []) ⟨hx, hb, hml, hown, hts⟩ (km_X13_fails l D q u hU K 1 z2 z12 v13 hcq) (cwV 1 hts (tw_gV wM_good wq_103 wq_104 wq_105 wq_61 wq_50) rfl rfl rfl cd_X13_fails ⟨(Nat.le_of_ble_eq_true rfl), (Nat.le_of_ble_eq_true rfl)⟩) (mw_preV hK hN hM mo_0 rfl) rfl rfl hl.1 rfl (lv_room (Nat.le_of_ble_eq_true rfl)) dmX13_reverse_15 ⟨(Nat.le_of_ble_eq_true rfl), (Nat.le_of_ble_eq_true rfl)⟩) (fun H locs hM => ?_)
          exact mw_iret hx hb hr hlocks hM hq hQQ dmX13_reverse_18
      · intro x1 x2 x3 x4 x5 x6 t0 z H locs ls  hM hl hq
        have hq : qm_X13_reverse_1 K (q_X13_reverse K k) x1 x2 x3 x4 x5 x6 t0 z = some (r, z1) := hq
        unfold qm_X13_reverse_1 at hq
        refine lv_aload_n hx hb dmX13_reverse_44 rfl (lv_at hl 0 rfl) ?_
        refine lv_iconst (v := 1) hx hb dmX13_reverse_45 (by decide) ?_
        obtain ⟨v15, z14, hcq, hq⟩ := tw_cl1 hq
        refine tw_cali hM (va_runV (As := [.int 1]) (rest := []) ⟨hx, hb, hml, hown, hts⟩ (km_X13_fails l D q u hU K 1 z z14 v15 hcq) (cwV 1 hts (tw_gV wM_good wq_103 wq_104 wq_105 wq_61 wq_50) rfl rfl rfl cd_X13_fails ⟨(Nat.le_of_ble_eq_true rfl), (Nat.le_of_ble_eq_true rfl)⟩) (mw_preV hK hN hM mo_0 rfl) rfl rfl hl.1 rfl (lv_room (Nat.le_of_ble_eq_true rfl)) dmX13_reverse_46 ⟨(Nat.le_of_ble_eq_true rfl), (Nat.le_of_ble_eq_true rfl)⟩) (fun H locs hM => ?_)
        exact mw_iret hx hb hr hlocks hM hq hQQ dmX13_reverse_49
      · intro x1 x2 x3 x4 x5 x6 t0 z H locs ls  hM hl hq
        have hq : qm_X13_reverse_2 K (q_X13_reverse K k) x1 x2 x3 x4 x5 x6 t0 z = some (r, z1) := hq
        unfold qm_X13_reverse_2 at hq
        refine lv_iload_n hx hb dmX13_reverse_84 rfl (lv_at hl 3 rfl) ?_
        refine lv_aload_n hx hb dmX13_reverse_85 rfl (lv_at hl 0 rfl) ?_
        refine mg13_114 hx hb hT hown hK hM dmX13_reverse_86 ?_
        refine mg13_407 hx hb hT hown hK hM hN mw_n1 hq dmX13_reverse_89 (fun v16 hq => ?_)
        refine lv_icmp_ge (tgt := 295) hx hb dmX13_reverse_92 (by decide) (fun hc => ?_) (fun hc => ?_)
        · have hq := tw_it hq hc
          refine lv_aload_n hx hb dmX13_reverse_295 rfl (lv_at hl 0 rfl) ?_
          obtain ⟨v18, z17, hcq, hq⟩ := tw_cl1 hq
          refine tw_cali hM (va_runV (As := []) (rest := []) ⟨hx, hb, hml, hown, hts⟩ (km_X13_keep l D q u hU K z z17 v18 hcq) (cwV 0 hts (tw_gV wM_good wq_123 wq_124 wq_125 wq_61 wq_99) rfl rfl rfl cd_X13_keep ⟨(Nat.le_of_ble_eq_true rfl), (Nat.le_of_ble_eq_true rfl)⟩) (mw_preV hK hN hM mo_0 rfl) rfl rfl hl.1 rfl (lv_room (Nat.le_of_ble_eq_true rfl)) dmX13_reverse_296 ⟨(Nat.le_of_ble_eq_true rfl), (Nat.le_of_ble_eq_true rfl)⟩) (fun H locs hM => ?_)
          exact mw_iret hx hb hr hlocks hM hq hQQ dmX13_reverse_299
        · have hq := tw_if hq hc
          refine lv_iload_n hx hb dmX13_reverse_95 rfl (lv_at hl 2 rfl) ?_
          refine lv_iconst (v := (-1)) hx hb dmX13_reverse_96 (by decide) ?_
          refine lv_icmp_eq (tgt := 105) hx hb dmX13_reverse_97 (by decide) (fun hc => ?_) (fun hc => ?_)
          · have hq := tw_it hq hc
            exact ih_3 x1 x2 x3 0 0 0 0 z H locs ls hM (lv_sub hl [0, 1, 2, 3] rfl) hq
          · have hq := tw_if hq hc
            refine lv_iload_n hx hb dmX13_reverse_100 rfl (lv_at hl 2 rfl) ?_
            refine lv_iload_n hx hb dmX13_reverse_101 rfl (lv_at hl 3 rfl) ?_
            refine lv_icmp_ne (tgt := 109) hx hb dmX13_reverse_102 (by decide) (fun hc => ?_) (fun hc => ?_)
            · have hq := tw_if hq hc
              refine lv_iconst (v := 0) hx hb dmX13_reverse_109 (by decide) ?_
              exact ih_4 x1 x2 x3 0 0 0 0 z H locs ls hM (lv_sub hl [0, 1, 2, 3] rfl) hq
            · have hq := tw_it hq hc
              exact ih_3 x1 x2 x3 0 0 0 0 z H locs ls hM (lv_sub hl [0, 1, 2, 3] rfl) hq
      · intro x1 x2 x3 x4 x5 x6 t0 z H locs ls  hM hl hq
        have hq : qm_X13_reverse_3 K (q_X13_reverse K k) x1 x2 x3 x4 x5 x6 t0 z = some (r, z1) := hq
        unfold qm_X13_reverse_3 at hq
        refine lv_iconst (v := 1) hx hb dmX13_reverse_105 (by decide) ?_
        refine lv_goto (tgt := 110) hx hb dmX13_reverse_106 (by decide) ?_
        exact ih_4 x1 x2 x3 0 0 0 1 z H locs ls hM (lv_sub hl [0, 1, 2, 3] rfl) hq
      · intro x1 x2 x3 x4 x5 x6 t0 z H locs ls  hM hl hq
        have hq : qm_X13_reverse_4 K (q_X13_reverse K k) x1 x2 x3 x4 x5 x6 t0 z = some (r, z1) := hq
        unfold qm_X13_reverse_4 at hq
        refine lv_istore (lv' := [(4, .int t0), (0, .ref (u 0)), (1, .int x1), (2, .int x2), (3, .int x3)]) hx hb dmX13_reverse_110 hl (by decide) rfl (fun ls hl => ?_)
        refine lv_iconst (v := 0) hx hb dmX13_reverse_112 (by decide) ?_
        refine lv_istore (lv' := [(5, .int 0), (4, .int t0), (0, .ref (u 0)), (1, .int x1), (2, .int x2), (3, .int x3)]) hx hb dmX13_reverse_113 hl (by decide) rfl (fun ls hl => ?_)
        exact ih_5 x1 x2 x3 t0 0 0 0 z H locs ls hM (lv_sub hl [2, 3, 4, 5, 1, 0] rfl) hq
      · intro x1 x2 x3 x4 x5 x6 t0 z H locs ls  hM hl hq
        have hq : qm_X13_reverse_5 K (q_X13_reverse K k) x1 x2 x3 x4 x5 x6 t0 z = some (r, z1) := hq
        unfold qm_X13_reverse_5 at hq
        refine lv_iload hx hb dmX13_reverse_115 (lv_at hl 5 rfl) ?_
        refine lv_aload_n hx hb dmX13_reverse_117 rfl (lv_at hl 0 rfl) ?_
        refine mg13_114 hx hb hT hown hK hM dmX13_reverse_118 ?_
        refine mg13_452 hx hb hT hown hK hM hN mw_n1 dmX13_reverse_121 ?_
        refine lv_iload_n hx hb dmX13_reverse_124 rfl (lv_at hl 3 rfl) ?_
        refine lv_iconst (v := 1) hx hb dmX13_reverse_125 (by decide) ?_
        refine lv_iadd hx hb dmX13_reverse_126 ?_
        refine tw_iald mX_ok hx hb hK hM (mrn_3 mw_n1) hq dmX13_reverse_127 (fun v19 hq => ?_)
        refine lv_aload_n hx hb dmX13_reverse_128 rfl (lv_at hl 0 rfl) ?_
        refine mg13_114 hx hb hT hown hK hM dmX13_reverse_129 ?_
        refine mg13_452 hx hb hT hown hK hM hN mw_n1 dmX13_reverse_132 ?_
        refine lv_iload_n hx hb dmX13_reverse_135 rfl (lv_at hl 3 rfl) ?_
        refine tw_iald mX_ok hx hb hK hM (mrn_3 mw_n1) hq dmX13_reverse_136 (fun v20 hq => ?_)
        refine lv_isub hx hb dmX13_reverse_137 ?_
        refine lv_icmp_ge (tgt := 282) hx hb dmX13_reverse_138 (by decide) (fun hc => ?_) (fun hc => ?_)
        · have hq := tw_it hq hc
          refine lv_aload_n hx hb dmX13_reverse_282 rfl (lv_at hl 0 rfl) ?_
          refine mg13_121 hx hb hT hown hK hM dmX13_reverse_283 ?_
          obtain ⟨z21, hcq, hq⟩ := tw_cl0 hq
          refine tw_calv hM (va_runV (As := []) (rest := []) ⟨hx, hb, hml, hown, hts⟩ (km_X12_end l D q u hU K 3000 mw_n3 z z21 hcq) (cwV 0 hts (tw_gV wM_good wq_86 wq_18 wq_19 wq_13 wq_7) rfl rfl rfl cd_X12_end ⟨(Nat.le_of_ble_eq_true rfl), (Nat.le_of_ble_eq_true rfl)⟩) (mw_preV hK hN hM (mo_n mw_n3) rfl) rfl rfl hl.1 rfl (lv_room (Nat.le_of_ble_eq_true rfl)) dmX13_reverse_286 ⟨(Nat.le_of_ble_eq_true rfl), (Nat.le_of_ble_eq_true rfl)⟩) (fun H locs hM => ?_)
          refine lv_iinc (v := (x3 + 1)) (lv' := [(3, .int (x3 + 1)), (0, .ref (u 0)), (1, .int x1), (2, .int x2), (4, .int x4), (5, .int x5)]) hx hb dmX13_reverse_289 hl (k := 3) rfl rfl (by decide) rfl (fun ls hl => ?_)
          refine lv_goto (tgt := 84) hx hb dmX13_reverse_292 (by decide) ?_
          exact ih_2 x1 x2 (x3 + 1) 0 0 0 0 z21 H locs ls hM (lv_sub hl [1, 2, 3, 0] rfl) hq
        · have hq := tw_if hq hc
          refine lv_iload hx hb dmX13_reverse_141 (lv_at hl 4 rfl) ?_
          refine lv_if_eq (tgt := 165) hx hb dmX13_reverse_143 (by decide) (fun hc => ?_) (fun hc => ?_)
          · have hq := tw_it hq hc
            refine lv_aload_n hx hb dmX13_reverse_165 rfl (lv_at hl 0 rfl) ?_
            refine mg13_114 hx hb hT hown hK hM dmX13_reverse_166 ?_
            refine mg13_452 hx hb hT hown hK hM hN mw_n1 dmX13_reverse_169 ?_
            refine lv_iload_n hx hb dmX13_reverse_172 rfl (lv_at hl 3 rfl) ?_
            refine tw_iald mX_ok hx hb hK hM (mrn_3 mw_n1) hq dmX13_reverse_173 (fun v22 hq => ?_)
            refine lv_iload hx hb dmX13_reverse_174 (lv_at hl 5 rfl) ?_
            refine lv_iadd hx hb dmX13_reverse_176 ?_
            exact ih_6 x1 x2 x3 x4 x5 0 (v22 + x5) z H locs ls hM (lv_sub hl [0, 1, 2, 3, 4, 5] rfl) hq
          · have hq := tw_if hq hc
            refine lv_aload_n hx hb dmX13_reverse_146 rfl (lv_at hl 0 rfl) ?_
            refine mg13_114 hx hb hT hown hK hM dmX13_reverse_147 ?_
            refine mg13_452 hx hb hT hown hK hM hN mw_n1 dmX13_reverse_150 ?_
            refine lv_iload_n hx hb dmX13_reverse_153 rfl (lv_at hl 3 rfl) ?_
            refine lv_iconst (v := 1) hx hb dmX13_reverse_154 (by decide) ?_
            refine lv_iadd hx hb dmX13_reverse_155 ?_
            refine tw_iald mX_ok hx hb hK hM (mrn_3 mw_n1) hq dmX13_reverse_156 (fun v23 hq => ?_)
            refine lv_iconst (v := 1) hx hb dmX13_reverse_157 (by decide) ?_
            refine lv_isub hx hb dmX13_reverse_158 ?_
            refine lv_iload hx hb dmX13_reverse_159 (lv_at hl 5 rfl) ?_
            refine lv_isub hx hb dmX13_reverse_161 ?_
            refine lv_goto (tgt := 177) hx hb dmX13_reverse_162 (by decide) ?_
            exact ih_6 x1 x2 x3 x4 x5 0 ((v23 - 1) - x5) z H locs ls hM (lv_sub hl [0, 1, 2, 3, 4, 5] rfl) hq
      · intro x1 x2 x3 x4 x5 x6 t0 z H locs ls  hM hl hq
        have hq : qm_X13_reverse_6 K (q_X13_reverse K k) x1 x2 x3 x4 x5 x6 t0 z = some (r, z1) := hq
        unfold qm_X13_reverse_6 at hq
        refine lv_istore (lv' := [(6, .int t0), (0, .ref (u 0)), (1, .int x1), (2, .int x2), (3, .int x3), (4, .int x4), (5, .int x5)]) hx hb dmX13_reverse_177 hl (by decide) rfl (fun ls hl => ?_)
        refine lv_aload_n hx hb dmX13_reverse_179 rfl (lv_at hl 1 rfl) ?_
        refine mg13_121 hx hb hT hown hK hM dmX13_reverse_180 ?_
        refine lv_aload_n hx hb dmX13_reverse_183 rfl (lv_at hl 1 rfl) ?_
        refine mg13_114 hx hb hT hown hK hM dmX13_reverse_184 ?_
        refine mg13_23 hx hb hT hown hK hM hN mw_n1 dmX13_reverse_187 ?_
        refine lv_iload hx hb dmX13_reverse_190 (lv_at hl 0 rfl) ?_
        refine tw_iald mX_ok hx hb hK hM (mrn_4 mw_n1) hq dmX13_reverse_192 (fun v24 hq => ?_)
        refine lv_aload_n hx hb dmX13_reverse_193 rfl (lv_at hl 1 rfl) ?_
        refine mg13_114 hx hb hT hown hK hM dmX13_reverse_194 ?_
        refine mg13_32 hx hb hT hown hK hM hN mw_n1 dmX13_reverse_197 ?_
        refine lv_iload hx hb dmX13_reverse_200 (lv_at hl 0 rfl) ?_
        refine tw_iald mX_ok hx hb hK hM (mrn_5 mw_n1) hq dmX13_reverse_202 (fun v25 hq => ?_)
        obtain ⟨z26, hcq, hq⟩ := tw_cl0 hq
        refine tw_calv hM (va_runV (As := [.int v24, .int v25]) (rest := []) ⟨hx, hb, hml, hown, hts⟩ (km_X12_add l D q u hU K 3000 v24 v25 mw_n3 z z26 hcq) (cwV 2 hts (tw_gV wM_good wq_87 wq_15 wq_16 wq_13 wq_6) rfl rfl rfl cd_X12_add ⟨(Nat.le_of_ble_eq_true rfl), (Nat.le_of_ble_eq_true rfl)⟩) (mw_preV hK hN hM (mo_n mw_n3) rfl) rfl rfl hl.1 rfl (lv_room (Nat.le_of_ble_eq_true rfl)) dmX13_reverse_203 ⟨(Nat.le_of_ble_eq_true rfl), (Nat.le_of_ble_eq_true rfl)⟩) (fun H locs hM => ?_)
        refine lv_iload hx hb dmX13_reverse_206 (lv_at hl 5 rfl) ?_
        refine lv_if_eq (tgt := 276) hx hb dmX13_reverse_208 (by decide) (fun hc => ?_) (fun hc => ?_)
        · have hq := tw_it hq hc
          exact ih_7 x1 x2 x3 x4 x5 t0 0 z26 H locs ls hM (lv_sub hl [1, 2, 3, 4, 5, 6, 0] rfl) hq
        · have hq := tw_if hq hc
          refine lv_iload_n hx hb dmX13_reverse_211 rfl (lv_at hl 3 rfl) ?_
          refine lv_iconst (v := (-1)) hx hb dmX13_reverse_212 (by decide) ?_
          refine lv_icmp_eq (tgt := 276) hx hb dmX13_reverse_213 (by decide) (fun hc => ?_) (fun hc => ?_)
          · have hq := tw_it hq hc
            exact ih_7 x1 x2 x3 x4 x5 t0 0 z26 H locs ls hM (lv_sub hl [1, 2, 3, 4, 5, 6, 0] rfl) hq
          · have hq := tw_if hq hc
            refine lv_aload_n hx hb dmX13_reverse_216 rfl (lv_at hl 1 rfl) ?_
            refine mg13_114 hx hb hT hown hK hM dmX13_reverse_217 ?_
            refine mg13_18 hx hb hT hown hK hM hN mw_n1 dmX13_reverse_220 ?_
            refine lv_aload_n hx hb dmX13_reverse_223 rfl (lv_at hl 1 rfl) ?_
            refine mg13_114 hx hb hT hown hK hM dmX13_reverse_224 ?_
            refine mg13_41 hx hb hT hown hK hM hN mw_n1 dmX13_reverse_227 ?_
            refine lv_iload hx hb dmX13_reverse_230 (lv_at hl 0 rfl) ?_
            refine tw_iald mX_ok hx hb hK hM (mrn_7 mw_n1) hq dmX13_reverse_232 (fun v27 hq => ?_)
            refine tw_iald mX_ok hx hb hK hM (mrn_8 mw_n1) hq dmX13_reverse_233 (fun v28 hq => ?_)
            refine lv_iload_n hx hb dmX13_reverse_234 rfl (lv_at hl 4 rfl) ?_
            refine lv_icmp_eq (tgt := 276) hx hb dmX13_reverse_235 (by decide) (fun hc => ?_) (fun hc => ?_)
            · have hq := tw_it hq hc
              exact ih_7 x1 x2 x3 x4 x5 t0 0 z26 H locs ls hM (lv_sub hl [1, 2, 3, 4, 5, 6, 0] rfl) hq
            · have hq := tw_if hq hc
              refine lv_aload_n hx hb dmX13_reverse_238 rfl (lv_at hl 1 rfl) ?_
              refine mg13_121 hx hb hT hown hK hM dmX13_reverse_239 ?_
              refine mg13_35 hx hb hT hown hK hM hN mw_n3 dmX13_reverse_242 ?_
              refine lv_aload_n hx hb dmX13_reverse_245 rfl (lv_at hl 1 rfl) ?_
              refine mg13_114 hx hb hT hown hK hM dmX13_reverse_246 ?_
              refine mg13_23 hx hb hT hown hK hM hN mw_n1 dmX13_reverse_249 ?_
              refine lv_iload hx hb dmX13_reverse_252 (lv_at hl 0 rfl) ?_
              refine tw_iald mX_ok hx hb hK hM (mrn_4 mw_n1) hq dmX13_reverse_254 (fun v29 hq => ?_)
              refine lv_iconst (v := 0) hx hb dmX13_reverse_255 (by decide) ?_
              refine lv_aload_n hx hb dmX13_reverse_256 rfl (lv_at hl 1 rfl) ?_
              refine mg13_114 hx hb hT hown hK hM dmX13_reverse_257 ?_
              refine mg13_35 hx hb hT hown hK hM hN mw_n1 dmX13_reverse_260 ?_
              refine lv_aload_n hx hb dmX13_reverse_263 rfl (lv_at hl 1 rfl) ?_
              refine mg13_114 hx hb hT hown hK hM dmX13_reverse_264 ?_
              refine mg13_23 hx hb hT hown hK hM hN mw_n1 dmX13_reverse_267 ?_
              refine lv_iload hx hb dmX13_reverse_270 (lv_at hl 0 rfl) ?_
              refine tw_iald mX_ok hx hb hK hM (mrn_4 mw_n1) hq dmX13_reverse_272 (fun v30 hq => ?_)
              refine tw_iald mX_ok hx hb hK hM (mrn_6 mw_n1) hq dmX13_reverse_273 (fun v31 hq => ?_)
              refine lv_isub hx hb dmX13_reverse_274 ?_
              refine tw_iast mX_ok hU hx hb hK hM (mrn_6 mw_n3) hq dmX13_reverse_275 (fun z32 H locs hM hq => ?_)
              exact ih_7 x1 x2 x3 x4 x5 t0 0 z32 H locs ls hM (lv_sub hl [1, 2, 3, 4, 5, 6, 0] rfl) hq
      · intro x1 x2 x3 x4 x5 x6 t0 z H locs ls  hM hl hq
        have hq : qm_X13_reverse_7 K (q_X13_reverse K k) x1 x2 x3 x4 x5 x6 t0 z = some (r, z1) := hq
        unfold qm_X13_reverse_7 at hq
        refine lv_iinc (v := (x5 + 1)) (lv' := [(5, .int (x5 + 1)), (0, .ref (u 0)), (1, .int x1), (2, .int x2), (3, .int x3), (4, .int x4), (6, .int x6)]) hx hb dmX13_reverse_276 hl (k := 5) rfl rfl (by decide) rfl (fun ls hl => ?_)
        refine lv_goto (tgt := 115) hx hb dmX13_reverse_279 (by decide) ?_
        exact ih_5 x1 x2 x3 x4 (x5 + 1) 0 0 z H locs ls hM (lv_sub hl [1, 2, 3, 4, 5, 0] rfl) hq
  exact (key K).1 x1 x2 0 0 0 0 0 z s.heap [] ls  hM (lv_sub hl [0, 1, 2] rfl) hq
theorem dmX13_changeIn_0 : decode cX13_changeIn 0 = .ok (.iconst 0, 1) := dw_at cX13_changeIn_k0 (p := 0) rfl (by decide +kernel)
theorem dmX13_changeIn_1 : decode cX13_changeIn 1 = .ok (.istore_n 2, 1) := dw_at cX13_changeIn_k0 (p := 1) rfl (by decide +kernel)
theorem dmX13_changeIn_2 : decode cX13_changeIn 2 = .ok (.iload_n 2, 1) := dw_at cX13_changeIn_k0 (p := 2) rfl (by decide +kernel)
theorem dmX13_changeIn_3 : decode cX13_changeIn 3 = .ok (.aload_n 0, 1) := dw_at cX13_changeIn_k0 (p := 3) rfl (by decide +kernel)
theorem dmX13_changeIn_4 : decode cX13_changeIn 4 = .ok (.getfield 44, 3) := dw_at cX13_changeIn_k0 (p := 4) rfl (by decide +kernel)
theorem dmX13_changeIn_7 : decode cX13_changeIn 7 = .ok (.if_icmp .ge 33, 3) := dw_at cX13_changeIn_k0 (p := 7) rfl (by decide +kernel)
theorem dmX13_changeIn_10 : decode cX13_changeIn 10 = .ok (.aload_n 0, 1) := dw_at cX13_changeIn_k0 (p := 10) rfl (by decide +kernel)
theorem dmX13_changeIn_11 : decode cX13_changeIn 11 = .ok (.getfield 23, 3) := dw_at cX13_changeIn_k0 (p := 11) rfl (by decide +kernel)
theorem dmX13_changeIn_14 : decode cX13_changeIn 14 = .ok (.iload_n 2, 1) := dw_at cX13_changeIn_k0 (p := 14) rfl (by decide +kernel)
theorem dmX13_changeIn_15 : decode cX13_changeIn 15 = .ok (.iaload, 1) := dw_at cX13_changeIn_k0 (p := 15) rfl (by decide +kernel)
theorem dmX13_changeIn_16 : decode cX13_changeIn 16 = .ok (.iload_n 1, 1) := dw_at cX13_changeIn_k0 (p := 16) rfl (by decide +kernel)
theorem dmX13_changeIn_17 : decode cX13_changeIn 17 = .ok (.if_icmp .ne 17, 3) := dw_at cX13_changeIn_k0 (p := 17) rfl (by decide +kernel)
theorem dmX13_changeIn_20 : decode cX13_changeIn 20 = .ok (.aload_n 0, 1) := dw_at cX13_changeIn_k0 (p := 20) rfl (by decide +kernel)
theorem dmX13_changeIn_21 : decode cX13_changeIn 21 = .ok (.getfield 32, 3) := dw_at cX13_changeIn_k0 (p := 21) rfl (by decide +kernel)
theorem dmX13_changeIn_24 : decode cX13_changeIn 24 = .ok (.iload_n 2, 1) := dw_at cX13_changeIn_k1 (p := 0) rfl (by decide +kernel)
theorem dmX13_changeIn_25 : decode cX13_changeIn 25 = .ok (.iconst 1, 1) := dw_at cX13_changeIn_k1 (p := 1) rfl (by decide +kernel)
theorem dmX13_changeIn_26 : decode cX13_changeIn 26 = .ok (.aload_n 0, 1) := dw_at cX13_changeIn_k1 (p := 2) rfl (by decide +kernel)
theorem dmX13_changeIn_27 : decode cX13_changeIn 27 = .ok (.getfield 32, 3) := dw_at cX13_changeIn_k1 (p := 3) rfl (by decide +kernel)
theorem dmX13_changeIn_30 : decode cX13_changeIn 30 = .ok (.iload_n 2, 1) := dw_at cX13_changeIn_k1 (p := 6) rfl (by decide +kernel)
theorem dmX13_changeIn_31 : decode cX13_changeIn 31 = .ok (.iaload, 1) := dw_at cX13_changeIn_k1 (p := 7) rfl (by decide +kernel)
theorem dmX13_changeIn_32 : decode cX13_changeIn 32 = .ok (.isub, 1) := dw_at cX13_changeIn_k1 (p := 8) rfl (by decide +kernel)
theorem dmX13_changeIn_33 : decode cX13_changeIn 33 = .ok (.iastore, 1) := dw_at cX13_changeIn_k1 (p := 9) rfl (by decide +kernel)
theorem dmX13_changeIn_34 : decode cX13_changeIn 34 = .ok (.iinc 2 1, 3) := dw_at cX13_changeIn_k1 (p := 10) rfl (by decide +kernel)
theorem dmX13_changeIn_37 : decode cX13_changeIn 37 = .ok (.goto (-35), 3) := dw_at cX13_changeIn_k1 (p := 13) rfl (by decide +kernel)
theorem dmX13_changeIn_40 : decode cX13_changeIn 40 = .ok (.aload_n 0, 1) := dw_at cX13_changeIn_k1 (p := 16) rfl (by decide +kernel)
theorem dmX13_changeIn_41 : decode cX13_changeIn 41 = .ok (.getfield 35, 3) := dw_at cX13_changeIn_k1 (p := 17) rfl (by decide +kernel)
theorem dmX13_changeIn_44 : decode cX13_changeIn 44 = .ok (.iload_n 1, 1) := dw_at cX13_changeIn_k1 (p := 20) rfl (by decide +kernel)
theorem dmX13_changeIn_45 : decode cX13_changeIn 45 = .ok (.iconst 0, 1) := dw_at cX13_changeIn_k1 (p := 21) rfl (by decide +kernel)
theorem dmX13_changeIn_46 : decode cX13_changeIn 46 = .ok (.aload_n 0, 1) := dw_at cX13_changeIn_k1 (p := 22) rfl (by decide +kernel)
theorem dmX13_changeIn_47 : decode cX13_changeIn 47 = .ok (.getfield 35, 3) := dw_at cX13_changeIn_k1 (p := 23) rfl (by decide +kernel)
theorem dmX13_changeIn_50 : decode cX13_changeIn 50 = .ok (.iload_n 1, 1) := dw_at cX13_changeIn_k1 (p := 26) rfl (by decide +kernel)
theorem dmX13_changeIn_51 : decode cX13_changeIn 51 = .ok (.iaload, 1) := dw_at cX13_changeIn_k1 (p := 27) rfl (by decide +kernel)
theorem dmX13_changeIn_52 : decode cX13_changeIn 52 = .ok (.isub, 1) := dw_at cX13_changeIn_k1 (p := 28) rfl (by decide +kernel)
theorem dmX13_changeIn_53 : decode cX13_changeIn 53 = .ok (.iastore, 1) := dw_at cX13_changeIn_k1 (p := 29) rfl (by decide +kernel)
theorem dmX13_changeIn_54 : decode cX13_changeIn 54 = .ok (.return_, 1) := dw_at cX13_changeIn_k1 (p := 30) rfl (by decide +kernel)
def qm_X13_changeIn_0 (K : Nat) (go : Nat → Int32 → Int32 → Nat → ow_MS → Option ow_MS) (x1 : Int32) (x2 : Int32) (r0 : Nat) (z : ow_MS) : Option ow_MS :=
 go 1 x1 0 r0 z
def qm_X13_changeIn_1 (K : Nat) (go : Nat → Int32 → Int32 → Nat → ow_MS → Option ow_MS) (x1 : Int32) (x2 : Int32) (r0 : Nat) (z : ow_MS) : Option ow_MS :=
 rdF z (r0 + 1) fun v1 => (if v1 ≤ x2 then rdI mX z (r0 + 6) x1 fun v2 => wrI mX z (r0 + 6) x1 (0 - v2) fun z3 => some z3
 else rdI mX z (r0 + 4) x2 fun v4 => (if v4 = x1 then rdI mX z (r0 + 5) x2 fun v5 => wrI mX z (r0 + 5) x2 (1 - v5) fun z6 => go 2 x1 x2 r0 z6
 else go 2 x1 x2 r0 z))
def qm_X13_changeIn_2 (K : Nat) (go : Nat → Int32 → Int32 → Nat → ow_MS → Option ow_MS) (x1 : Int32) (x2 : Int32) (r0 : Nat) (z : ow_MS) : Option ow_MS :=
 go 1 x1 (x2 + 1) r0 z
def qb_X13_changeIn (K : Nat) (go : Nat → Int32 → Int32 → Nat → ow_MS → Option ow_MS) (L : Nat) (x1 : Int32) (x2 : Int32) (r0 : Nat) (z : ow_MS) : Option ow_MS := match L with
  | 0 => qm_X13_changeIn_0 K go x1 x2 r0 z
  | 1 => qm_X13_changeIn_1 K go x1 x2 r0 z
  | 2 => qm_X13_changeIn_2 K go x1 x2 r0 z
  | _ => none
def q_X13_changeIn (K : Nat) : Nat → Nat → Int32 → Int32 → Nat → ow_MS → Option ow_MS
  | 0 => fun _ _ _ _ _ => none
  | k + 1 => qb_X13_changeIn K (q_X13_changeIn K k)
def qe_X13_changeIn (K : Nat) (r0 : Nat) (x1 : Int32) (z : ow_MS) : Option ow_MS := q_X13_changeIn K K 0 x1 0 r0 z
abbrev wm_X13_changeIn : List Cond := .code yX13_changeIn cX13_changeIn 3 none :: wM
theorem cd_X13_changeIn : yX13_changeIn.cls ≠ "java/lang/invoke/MethodHandle" ∧ yX13_changeIn.cls ≠ "java/lang/invoke/VarHandle" ∧ (parseMethodDescriptor yX13_changeIn.desc).map (fun d => d.parameters.length) = some 2 := by decide +kernel
set_option maxHeartbeats 4000000 in
set_option maxRecDepth 100000 in
theorem km_X13_changeIn (l : Launch) (D : va_G) (q : ow_Q5) (u : Nat → Nat) (hU : tw_inj mX u) (K : Nat) (r0 : Nat) (x1 : Int32) (hr0 : mw_net r0) (z z1 : ow_MS) (hq : qe_X13_changeIn K r0 x1 z = some z1) : Met l yX13_changeIn wm_X13_changeIn ({ frames := 0, cells := 0, slots := 0, locals := 0 } : Room) (va_Pc [.ref (u r0), .int x1] (mw_pre D q u z)) (va_Qv (fun (_ : Unit) => True) (fun _ t => va_P D vwCl (tw mX q u z1) t.heap) (tw_A mX u)) 0 0 (tw_A mX u) := by
  refine Met.ofW (cc := cX13_changeIn) (maxL := 3) (ret := none) (by decide) rfl ?_
  intro p e s m args below meth c s₁ B hml hv
  obtain ⟨rfl, hP, hK, hN⟩ := hv
  have hx := B.exec
  have hb := B.bytes
  have hr := B.returns
  have hts := atoms_spec (ws := wm_X13_changeIn) B.pre
  have hT : ∀ w ∈ wM, w.before ([.ref (u r0), .int x1] : List Value).toArray s = true := fun w h => hts w (List.mem_cons_of_mem _ h)
  have hown : s.vm.findClass RX13 = some m.cls := findClass_of_methodNamed B.named
  have hlocks := B.notSynchronized
  have hM : tw_M D vwCl mX q s.heap u z s.heap [] := ⟨hP, va_S.rf⟩
  have hl := lv_entry ([.ref (u r0), .int x1]) (n := 3) (Nat.le_of_ble_eq_true rfl)
  rw [lg_entry_eq]
  generalize (lg_sl ([.ref (u r0), .int x1]) ++ List.replicate (3 - (lg_sl ([.ref (u r0), .int x1])).length) Slot.unset).toArray = ls at hl ⊢
  have hl : lv_has ls 3 [(0, .ref (u r0)), (1, .int x1)] := hl
  refine ow_named (fun QQ hQQ => ?_)
  generalize ([.ref (u r0), .int x1] : List Value).toArray = args at hts hT hQQ ⊢
  have key : ∀ k : Nat, (∀ (x1 : Int32) (x2 : Int32) (r0 : Nat) (z : ow_MS) (H : Heap) (locs : List Loc) (ls : Array Slot), mw_net r0 → tw_M D vwCl mX q s.heap u z H locs → lv_has ls 3 [(0, .ref (u r0)), (1, .int x1)] → q_X13_changeIn K k 0 x1 x2 r0 z = some z1 → W p l e ({ frames := 0, cells := 0, slots := 0, locals := 0 } : Room) s m args below meth c H locs 0 0 QQ (F0 m 0 ls [])) ∧ (∀ (x1 : Int32) (x2 : Int32) (r0 : Nat) (z : ow_MS) (H : Heap) (locs : List Loc) (ls : Array Slot), mw_net r0 → tw_M D vwCl mX q s.heap u z H locs → lv_has ls 3 [(0, .ref (u r0)), (1, .int x1), (2, .int x2)] → q_X13_changeIn K k 1 x1 x2 r0 z = some z1 → W p l e ({ frames := 0, cells := 0, slots := 0, locals := 0 } : Room) s m args below meth c H locs 0 0 QQ (F0 m 2 ls [])) ∧ (∀ (x1 : Int32) (x2 : Int32) (r0 : Nat) (z : ow_MS) (H : Heap) (locs : List Loc) (ls : Array Slot), mw_net r0 → tw_M D vwCl mX q s.heap u z H locs → lv_has ls 3 [(0, .ref (u r0)), (1, .int x1), (2, .int x2)] → q_X13_changeIn K k 2 x1 x2 r0 z = some z1 → W p l e ({ frames := 0, cells := 0, slots := 0, locals := 0 } : Room) s m args below meth c H locs 0 0 QQ (F0 m 34 ls [])) := by
    intro k
    induction k with
    | zero => exact ⟨fun _ _ _ _ _ _ _ _ _ _ hq => tw_no hq, fun _ _ _ _ _ _ _ _ _ _ hq => tw_no hq, fun _ _ _ _ _ _ _ _ _ _ hq => tw_no hq⟩
    | succ k ih =>
      obtain ⟨ih_0, ih_1, ih_2⟩ := ih
      refine ⟨?_, ?_, ?_⟩
      · intro x1 x2 r0 z H locs ls hr0 hM hl hq
        have hq : qm_X13_changeIn_0 K (q_X13_changeIn K k) x1 x2 r0 z = some z1 := hq
        unfold qm_X13_changeIn_0 at hq
        refine lv_iconst (v := 0) hx hb dmX13_changeIn_0 (by decide) ?_
        refine lv_istore_n (lv' := [(2, .int 0), (0, .ref (u r0)), (1, .int x1)]) hx hb dmX13_changeIn_1 rfl hl (by decide) rfl (fun ls hl => ?_)
        exact ih_1 x1 0 r0 z H locs ls hr0 hM (lv_sub hl [1, 2, 0] rfl) hq
      · intro x1 x2 r0 z H locs ls hr0 hM hl hq
        have hq : qm_X13_changeIn_1 K (q_X13_changeIn K k) x1 x2 r0 z = some z1 := hq
        unfold qm_X13_changeIn_1 at hq
        refine lv_iload_n hx hb dmX13_changeIn_2 rfl (lv_at hl 2 rfl) ?_
        refine lv_aload_n hx hb dmX13_changeIn_3 rfl (lv_at hl 0 rfl) ?_
        refine mg13_44 hx hb hT hown hK hM hN hr0 hq dmX13_changeIn_4 (fun v1 hq => ?_)
        refine lv_icmp_ge (tgt := 40) hx hb dmX13_changeIn_7 (by decide) (fun hc => ?_) (fun hc => ?_)
        · have hq := tw_it hq hc
          refine lv_aload_n hx hb dmX13_changeIn_40 rfl (lv_at hl 0 rfl) ?_
          refine mg13_35 hx hb hT hown hK hM hN hr0 dmX13_changeIn_41 ?_
          refine lv_iload_n hx hb dmX13_changeIn_44 rfl (lv_at hl 1 rfl) ?_
          refine lv_iconst (v := 0) hx hb dmX13_changeIn_45 (by decide) ?_
          refine lv_aload_n hx hb dmX13_changeIn_46 rfl (lv_at hl 0 rfl) ?_
          refine mg13_35 hx hb hT hown hK hM hN hr0 dmX13_changeIn_47 ?_
          refine lv_iload_n hx hb dmX13_changeIn_50 rfl (lv_at hl 1 rfl) ?_
          refine tw_iald mX_ok hx hb hK hM (mrn_6 hr0) hq dmX13_changeIn_51 (fun v2 hq => ?_)
          refine lv_isub hx hb dmX13_changeIn_52 ?_
          refine tw_iast mX_ok hU hx hb hK hM (mrn_6 hr0) hq dmX13_changeIn_53 (fun z3 H locs hM hq => ?_)
          exact mw_vret hx hb hr hlocks hM hq hQQ dmX13_changeIn_54
        · have hq := tw_if hq hc
          refine lv_aload_n hx hb dmX13_changeIn_10 rfl (lv_at hl 0 rfl) ?_
          refine mg13_23 hx hb hT hown hK hM hN hr0 dmX13_changeIn_11 ?_
          refine lv_iload_n hx hb dmX13_changeIn_14 rfl (lv_at hl 2 rfl) ?_
          refine tw_iald mX_ok hx hb hK hM (mrn_4 hr0) hq dmX13_changeIn_15 (fun v4 hq => ?_)
          refine lv_iload_n hx hb dmX13_changeIn_16 rfl (lv_at hl 1 rfl) ?_
          refine lv_icmp_ne (tgt := 34) hx hb dmX13_changeIn_17 (by decide) (fun hc => ?_) (fun hc => ?_)
          · have hq := tw_if hq hc
            exact ih_2 x1 x2 r0 z H locs ls hr0 hM (lv_sub hl [0, 1, 2] rfl) hq
          · have hq := tw_it hq hc
            refine lv_aload_n hx hb dmX13_changeIn_20 rfl (lv_at hl 0 rfl) ?_
            refine mg13_32 hx hb hT hown hK hM hN hr0 dmX13_changeIn_21 ?_
            refine lv_iload_n hx hb dmX13_changeIn_24 rfl (lv_at hl 2 rfl) ?_
            refine lv_iconst (v := 1) hx hb dmX13_changeIn_25 (by decide) ?_
            refine lv_aload_n hx hb dmX13_changeIn_26 rfl (lv_at hl 0 rfl) ?_
            refine mg13_32 hx hb hT hown hK hM hN hr0 dmX13_changeIn_27 ?_
            refine lv_iload_n hx hb dmX13_changeIn_30 rfl (lv_at hl 2 rfl) ?_
            refine tw_iald mX_ok hx hb hK hM (mrn_5 hr0) hq dmX13_changeIn_31 (fun v5 hq => ?_)
            refine lv_isub hx hb dmX13_changeIn_32 ?_
            refine tw_iast mX_ok hU hx hb hK hM (mrn_5 hr0) hq dmX13_changeIn_33 (fun z6 H locs hM hq => ?_)
            exact ih_2 x1 x2 r0 z6 H locs ls hr0 hM (lv_sub hl [0, 1, 2] rfl) hq
      · intro x1 x2 r0 z H locs ls hr0 hM hl hq
        have hq : qm_X13_changeIn_2 K (q_X13_changeIn K k) x1 x2 r0 z = some z1 := hq
        unfold qm_X13_changeIn_2 at hq
        refine lv_iinc (v := (x2 + 1)) (lv' := [(2, .int (x2 + 1)), (0, .ref (u r0)), (1, .int x1)]) hx hb dmX13_changeIn_34 hl (k := 2) rfl rfl (by decide) rfl (fun ls hl => ?_)
        refine lv_goto (tgt := 2) hx hb dmX13_changeIn_37 (by decide) ?_
        exact ih_1 x1 (x2 + 1) r0 z H locs ls hr0 hM (lv_sub hl [1, 2, 0] rfl) hq
  exact (key K).1 x1 0 r0 z s.heap [] ls hr0 hM (lv_sub hl [0, 1] rfl) hq
theorem dmX13_change_0 : decode cX13_change 0 = .ok (.aload_n 0, 1) := dw_at cX13_change_k0 (p := 0) rfl (by decide +kernel)
theorem dmX13_change_1 : decode cX13_change 1 = .ok (.iconst 0, 1) := dw_at cX13_change_k0 (p := 1) rfl (by decide +kernel)
theorem dmX13_change_2 : decode cX13_change 2 = .ok (.putfield 1, 3) := dw_at cX13_change_k0 (p := 2) rfl (by decide +kernel)
theorem dmX13_change_5 : decode cX13_change 5 = .ok (.aload_n 0, 1) := dw_at cX13_change_k0 (p := 5) rfl (by decide +kernel)
theorem dmX13_change_6 : decode cX13_change 6 = .ok (.iload_n 1, 1) := dw_at cX13_change_k0 (p := 6) rfl (by decide +kernel)
theorem dmX13_change_7 : decode cX13_change 7 = .ok (.invokevirtual 423, 3) := dw_at cX13_change_k0 (p := 7) rfl (by decide +kernel)
theorem dmX13_change_10 : decode cX13_change 10 = .ok (.ifCond .ne 9, 3) := dw_at cX13_change_k0 (p := 10) rfl (by decide +kernel)
theorem dmX13_change_13 : decode cX13_change 13 = .ok (.aload_n 0, 1) := dw_at cX13_change_k0 (p := 13) rfl (by decide +kernel)
theorem dmX13_change_14 : decode cX13_change 14 = .ok (.iconst 1, 1) := dw_at cX13_change_k0 (p := 14) rfl (by decide +kernel)
theorem dmX13_change_15 : decode cX13_change 15 = .ok (.invokevirtual 403, 3) := dw_at cX13_change_k0 (p := 15) rfl (by decide +kernel)
theorem dmX13_change_18 : decode cX13_change 18 = .ok (.ireturn, 1) := dw_at cX13_change_k0 (p := 18) rfl (by decide +kernel)
theorem dmX13_change_19 : decode cX13_change 19 = .ok (.aload_n 0, 1) := dw_at cX13_change_k0 (p := 19) rfl (by decide +kernel)
theorem dmX13_change_20 : decode cX13_change 20 = .ok (.iload_n 1, 1) := dw_at cX13_change_k0 (p := 20) rfl (by decide +kernel)
theorem dmX13_change_21 : decode cX13_change 21 = .ok (.aload_n 0, 1) := dw_at cX13_change_k0 (p := 21) rfl (by decide +kernel)
theorem dmX13_change_22 : decode cX13_change 22 = .ok (.getfield 121, 3) := dw_at cX13_change_k0 (p := 22) rfl (by decide +kernel)
theorem dmX13_change_25 : decode cX13_change 25 = .ok (.invokevirtual 434, 3) := dw_at cX13_change_k1 (p := 0) rfl (by decide +kernel)
theorem dmX13_change_28 : decode cX13_change 28 = .ok (.iload_n 2, 1) := dw_at cX13_change_k1 (p := 3) rfl (by decide +kernel)
theorem dmX13_change_29 : decode cX13_change 29 = .ok (.ifCond .lt 16, 3) := dw_at cX13_change_k1 (p := 4) rfl (by decide +kernel)
theorem dmX13_change_32 : decode cX13_change 32 = .ok (.iload_n 2, 1) := dw_at cX13_change_k1 (p := 7) rfl (by decide +kernel)
theorem dmX13_change_33 : decode cX13_change 33 = .ok (.aload_n 0, 1) := dw_at cX13_change_k1 (p := 8) rfl (by decide +kernel)
theorem dmX13_change_34 : decode cX13_change 34 = .ok (.getfield 121, 3) := dw_at cX13_change_k1 (p := 9) rfl (by decide +kernel)
theorem dmX13_change_37 : decode cX13_change 37 = .ok (.getfield 44, 3) := dw_at cX13_change_k1 (p := 12) rfl (by decide +kernel)
theorem dmX13_change_40 : decode cX13_change 40 = .ok (.iconst 2, 1) := dw_at cX13_change_k1 (p := 15) rfl (by decide +kernel)
theorem dmX13_change_41 : decode cX13_change 41 = .ok (.idiv, 1) := dw_at cX13_change_k1 (p := 16) rfl (by decide +kernel)
theorem dmX13_change_42 : decode cX13_change 42 = .ok (.if_icmp .lt 9, 3) := dw_at cX13_change_k1 (p := 17) rfl (by decide +kernel)
theorem dmX13_change_45 : decode cX13_change 45 = .ok (.aload_n 0, 1) := dw_at cX13_change_k1 (p := 20) rfl (by decide +kernel)
theorem dmX13_change_46 : decode cX13_change 46 = .ok (.iconst 1, 1) := dw_at cX13_change_k1 (p := 21) rfl (by decide +kernel)
theorem dmX13_change_47 : decode cX13_change 47 = .ok (.invokevirtual 403, 3) := dw_at cX13_change_k1 (p := 22) rfl (by decide +kernel)
theorem dmX13_change_50 : decode cX13_change 50 = .ok (.ireturn, 1) := dw_at cX13_change_k2 (p := 0) rfl (by decide +kernel)
theorem dmX13_change_51 : decode cX13_change 51 = .ok (.aload_n 0, 1) := dw_at cX13_change_k2 (p := 1) rfl (by decide +kernel)
theorem dmX13_change_52 : decode cX13_change 52 = .ok (.invokevirtual 392, 3) := dw_at cX13_change_k2 (p := 2) rfl (by decide +kernel)
theorem dmX13_change_55 : decode cX13_change 55 = .ok (.iconst (-1), 1) := dw_at cX13_change_k2 (p := 5) rfl (by decide +kernel)
theorem dmX13_change_56 : decode cX13_change 56 = .ok (.if_icmp .ne 9, 3) := dw_at cX13_change_k2 (p := 6) rfl (by decide +kernel)
theorem dmX13_change_59 : decode cX13_change 59 = .ok (.aload_n 0, 1) := dw_at cX13_change_k2 (p := 9) rfl (by decide +kernel)
theorem dmX13_change_60 : decode cX13_change 60 = .ok (.iconst 2, 1) := dw_at cX13_change_k2 (p := 10) rfl (by decide +kernel)
theorem dmX13_change_61 : decode cX13_change 61 = .ok (.invokevirtual 403, 3) := dw_at cX13_change_k2 (p := 11) rfl (by decide +kernel)
theorem dmX13_change_64 : decode cX13_change 64 = .ok (.ireturn, 1) := dw_at cX13_change_k2 (p := 14) rfl (by decide +kernel)
theorem dmX13_change_65 : decode cX13_change 65 = .ok (.aload_n 0, 1) := dw_at cX13_change_k2 (p := 15) rfl (by decide +kernel)
theorem dmX13_change_66 : decode cX13_change 66 = .ok (.getfield 121, 3) := dw_at cX13_change_k2 (p := 16) rfl (by decide +kernel)
theorem dmX13_change_69 : decode cX13_change 69 = .ok (.iload_n 2, 1) := dw_at cX13_change_k2 (p := 19) rfl (by decide +kernel)
theorem dmX13_change_70 : decode cX13_change 70 = .ok (.invokestatic 455, 3) := dw_at cX13_change_k2 (p := 20) rfl (by decide +kernel)
theorem dmX13_change_73 : decode cX13_change 73 = .ok (.aload_n 0, 1) := dw_at cX13_change_k2 (p := 23) rfl (by decide +kernel)
theorem dmX13_change_74 : decode cX13_change 74 = .ok (.invokevirtual 420, 3) := dw_at cX13_change_k2 (p := 24) rfl (by decide +kernel)
theorem dmX13_change_77 : decode cX13_change 77 = .ok (.ireturn, 1) := dw_at cX13_change_k2 (p := 27) rfl (by decide +kernel)
def qm_X13_change_0 (K : Nat) (go : Nat → Int32 → Int32 → ow_MS → Option (Int32 × ow_MS)) (x1 : Int32) (x2 : Int32) (z : ow_MS) : Option (Int32 × ow_MS) :=
 wrF z 1 0 fun z1 => cs1 (qe_X13_has K x1 z1) fun v3 z2 => (if v3 = 0 then cs1 (qe_X13_fails K 1 z2) fun v14 z13 => some (v14, z13)
 else cs0 (qe_X13_open K x1 3000 z2) fun z4 => (if x2 < 0 then go 1 x1 x2 z4
 else rdF z4 (3000 + 1) fun v5 => nzI 2 ((if x2 < (v5 / 2) then cs1 (qe_X13_free K z4) fun v7 z6 => (if v7 = (-1) then cs1 (qe_X13_fails K 2 z6) fun v12 z11 => some (v12, z11)
 else cs0 (qe_X13_changeIn K 3000 x2 z6) fun z8 => cs1 (qe_X13_keep K z8) fun v10 z9 => some (v10, z9))
 else go 1 x1 x2 z4))))
def qm_X13_change_1 (K : Nat) (go : Nat → Int32 → Int32 → ow_MS → Option (Int32 × ow_MS)) (x1 : Int32) (x2 : Int32) (z : ow_MS) : Option (Int32 × ow_MS) :=
 cs1 (qe_X13_fails K 1 z) fun v16 z15 => some (v16, z15)
def qb_X13_change (K : Nat) (go : Nat → Int32 → Int32 → ow_MS → Option (Int32 × ow_MS)) (L : Nat) (x1 : Int32) (x2 : Int32) (z : ow_MS) : Option (Int32 × ow_MS) := match L with
  | 0 => qm_X13_change_0 K go x1 x2 z
  | 1 => qm_X13_change_1 K go x1 x2 z
  | _ => none
def q_X13_change (K : Nat) : Nat → Nat → Int32 → Int32 → ow_MS → Option (Int32 × ow_MS)
  | 0 => fun _ _ _ _ => none
  | k + 1 => qb_X13_change K (q_X13_change K k)
def qe_X13_change (K : Nat) (x1 : Int32) (x2 : Int32) (z : ow_MS) : Option (Int32 × ow_MS) := q_X13_change K K 0 x1 x2 z
abbrev wm_X13_change : List Cond := .code yX13_change cX13_change 3 (some .int) :: wM
theorem cd_X13_change : yX13_change.cls = RX13 ∧ yX13_change.cls ≠ "java/lang/invoke/MethodHandle" ∧ yX13_change.cls ≠ "java/lang/invoke/VarHandle" ∧ (parseMethodDescriptor yX13_change.desc).map (fun d => d.parameters.length) = some 2 := by decide +kernel
set_option maxHeartbeats 4000000 in
set_option maxRecDepth 100000 in
theorem km_X13_change (l : Launch) (D : va_G) (q : ow_Q5) (u : Nat → Nat) (hU : tw_inj mX u) (K : Nat) (x1 : Int32) (x2 : Int32)  (z z1 : ow_MS) (r : Int32) (hq : qe_X13_change K x1 x2 z = some (r, z1)) : Met l yX13_change wm_X13_change ({ frames := 5, cells := 0, slots := 0, locals := 132 } : Room) (va_Pc [.ref (u 0), .int x1, .int x2] (mw_pre D q u z)) (va_Qi (fun x (_ : Unit) => x = r) (fun _ t => va_P D vwCl (tw mX q u z1) t.heap) (tw_A mX u)) 0 0 (tw_A mX u) := by
  refine Met.ofW (cc := cX13_change) (maxL := 3) (ret := (some .int)) (by decide) rfl ?_
  intro p e s m args below meth c s₁ B hml hv
  obtain ⟨rfl, hP, hK, hN⟩ := hv
  have hx := B.exec
  have hb := B.bytes
  have hr := B.returns
  have hts := atoms_spec (ws := wm_X13_change) B.pre
  have hT : ∀ w ∈ wM, w.before ([.ref (u 0), .int x1, .int x2] : List Value).toArray s = true := fun w h => hts w (List.mem_cons_of_mem _ h)
  have hown : s.vm.findClass RX13 = some m.cls := findClass_of_methodNamed B.named
  have hlocks := B.notSynchronized
  have hM : tw_M D vwCl mX q s.heap u z s.heap [] := ⟨hP, va_S.rf⟩
  have hl := lv_entry ([.ref (u 0), .int x1, .int x2]) (n := 3) (Nat.le_of_ble_eq_true rfl)
  rw [lg_entry_eq]
  generalize (lg_sl ([.ref (u 0), .int x1, .int x2]) ++ List.replicate (3 - (lg_sl ([.ref (u 0), .int x1, .int x2])).length) Slot.unset).toArray = ls at hl ⊢
  have hl : lv_has ls 3 [(0, .ref (u 0)), (1, .int x1), (2, .int x2)] := hl
  refine ow_named (fun QQ hQQ => ?_)
  generalize ([.ref (u 0), .int x1, .int x2] : List Value).toArray = args at hts hT hQQ ⊢
  have key : ∀ k : Nat, (∀ (x1 : Int32) (x2 : Int32) (z : ow_MS) (H : Heap) (locs : List Loc) (ls : Array Slot), tw_M D vwCl mX q s.heap u z H locs → lv_has ls 3 [(0, .ref (u 0)), (1, .int x1), (2, .int x2)] → q_X13_change K k 0 x1 x2 z = some (r, z1) → W p l e ({ frames := 5, cells := 0, slots := 0, locals := 132 } : Room) s m args below meth c H locs 0 0 QQ (F0 m 0 ls [])) ∧ (∀ (x1 : Int32) (x2 : Int32) (z : ow_MS) (H : Heap) (locs : List Loc) (ls : Array Slot), tw_M D vwCl mX q s.heap u z H locs → lv_has ls 3 [(0, .ref (u 0)), (1, .int x1), (2, .int x2)] → q_X13_change K k 1 x1 x2 z = some (r, z1) → W p l e ({ frames := 5, cells := 0, slots := 0, locals := 132 } : Room) s m args below meth c H locs 0 0 QQ (F0 m 45 ls [])) := by
    intro k
    induction k with
    | zero => exact ⟨fun _ _ _ _ _ _  _ _ hq => tw_no hq, fun _ _ _ _ _ _  _ _ hq => tw_no hq⟩
    | succ k ih =>
      obtain ⟨ih_0, ih_1⟩ := ih
      refine ⟨?_, ?_⟩
      · intro x1 x2 z H locs ls  hM hl hq
        have hq : qm_X13_change_0 K (q_X13_change K k) x1 x2 z = some (r, z1) := hq
        unfold qm_X13_change_0 at hq
        refine lv_aload_n hx hb dmX13_change_0 rfl (lv_at hl 0 rfl) ?_
        refine lv_iconst (v := 0) hx hb dmX13_change_1 (by decide) ?_
        refine mp13_1 hx hb hT hown hK hM hU hq dmX13_change_2 (fun z1 H locs hM hq => ?_)
        refine lv_aload_n hx hb dmX13_change_5 rfl (lv_at hl 0 rfl) ?_
        refine lv_iload_n hx hb dmX13_change_6 rfl (lv_at hl 1 rfl) ?_
        obtain ⟨v3, z2, hcq, hq⟩ := tw_cl1 hq
        refine tw_cali hM (va_runV (As := [.int x1]) (rest := []) ⟨hx, hb, hml, hown, hts⟩ (km_X13_has l D q u hU K x1 z1 z2 v3 hcq) (cwV 1 hts (tw_gV wM_good wq_127 wq_128 wq_129 wq_61 wq_90) rfl rfl rfl cd_X13_has ⟨(Nat.le_of_ble_eq_true rfl), (Nat.le_of_ble_eq_true rfl)⟩) (mw_preV hK hN hM mo_0 rfl) rfl rfl hl.1 rfl (lv_room (Nat.le_of_ble_eq_true rfl)) dmX13_change_7 ⟨(Nat.le_of_ble_eq_true rfl), (Nat.le_of_ble_eq_true rfl)⟩) (fun H locs hM => ?_)
        refine lv_if_ne (tgt := 19) hx hb dmX13_change_10 (by decide) (fun hc => ?_) (fun hc => ?_)
        · have hq := tw_if hq hc
          refine lv_aload_n hx hb dmX13_change_19 rfl (lv_at hl 0 rfl) ?_
          refine lv_iload_n hx hb dmX13_change_20 rfl (lv_at hl 1 rfl) ?_
          refine lv_aload_n hx hb dmX13_change_21 rfl (lv_at hl 0 rfl) ?_
          refine mg13_121 hx hb hT hown hK hM dmX13_change_22 ?_
          obtain ⟨z4, hcq, hq⟩ := tw_cl0 hq
          refine tw_calv hM (va_runV (As := [.int x1, .ref (u 3000)]) (rest := []) ⟨hx, hb, hml, hown, hts⟩ (km_X13_open l D q u hU K x1 3000 mw_n3 z2 z4 hcq) (cwV 2 hts (tw_gV wM_good wq_138 wq_139 wq_140 wq_61 wq_136) rfl rfl rfl cd_X13_open ⟨(Nat.le_of_ble_eq_true rfl), (Nat.le_of_ble_eq_true rfl)⟩) (mw_preV hK hN hM mo_0 rfl) rfl rfl hl.1 rfl (lv_room (Nat.le_of_ble_eq_true rfl)) dmX13_change_25 ⟨(Nat.le_of_ble_eq_true rfl), (Nat.le_of_ble_eq_true rfl)⟩) (fun H locs hM => ?_)
          refine lv_iload_n hx hb dmX13_change_28 rfl (lv_at hl 2 rfl) ?_
          refine lv_if_lt (tgt := 45) hx hb dmX13_change_29 (by decide) (fun hc => ?_) (fun hc => ?_)
          · have hq := tw_it hq hc
            exact ih_1 x1 x2 z4 H locs ls hM (lv_sub hl [0, 1, 2] rfl) hq
          · have hq := tw_if hq hc
            refine lv_iload_n hx hb dmX13_change_32 rfl (lv_at hl 2 rfl) ?_
            refine lv_aload_n hx hb dmX13_change_33 rfl (lv_at hl 0 rfl) ?_
            refine mg13_121 hx hb hT hown hK hM dmX13_change_34 ?_
            refine mg13_44 hx hb hT hown hK hM hN mw_n3 hq dmX13_change_37 (fun v5 hq => ?_)
            refine lv_iconst (v := 2) hx hb dmX13_change_40 (by decide) ?_
            obtain ⟨hz, hq⟩ := tw_nzI hq
            refine lv_idiv hx hb dmX13_change_41 hz ?_
            refine lv_icmp_lt (tgt := 51) hx hb dmX13_change_42 (by decide) (fun hc => ?_) (fun hc => ?_)
            · have hq := tw_it hq hc
              refine lv_aload_n hx hb dmX13_change_51 rfl (lv_at hl 0 rfl) ?_
              obtain ⟨v7, z6, hcq, hq⟩ := tw_cl1 hq
              refine tw_cali hM (va_runV (As := []) (rest := []) ⟨hx, hb, hml, hown, hts⟩ (km_X13_free l D q u hU K z4 z6 v7 hcq) (cwV 0 hts (tw_gV wM_good wq_93 wq_94 wq_95 wq_61 wq_91) rfl rfl rfl cd_X13_free ⟨(Nat.le_of_ble_eq_true rfl), (Nat.le_of_ble_eq_true rfl)⟩) (mw_preV hK hN hM mo_0 rfl) rfl rfl hl.1 rfl (lv_room (Nat.le_of_ble_eq_true rfl)) dmX13_change_52 ⟨(Nat.le_of_ble_eq_true rfl), (Nat.le_of_ble_eq_true rfl)⟩) (fun H locs hM => ?_)
              refine lv_iconst (v := (-1)) hx hb dmX13_change_55 (by decide) ?_
              refine lv_icmp_ne (tgt := 65) hx hb dmX13_change_56 (by decide) (fun hc => ?_) (fun hc => ?_)
              · have hq := tw_if hq hc
                refine lv_aload_n hx hb dmX13_change_65 rfl (lv_at hl 0 rfl) ?_
                refine mg13_121 hx hb hT hown hK hM dmX13_change_66 ?_
                refine lv_iload_n hx hb dmX13_change_69 rfl (lv_at hl 2 rfl) ?_
                obtain ⟨z8, hcq, hq⟩ := tw_cl0 hq
                refine tw_calv hM (va_runS (As := [.ref (u 3000), .int x2]) (rest := []) ⟨hx, hb, hml, hown, hts⟩ (km_X13_changeIn l D q u hU K 3000 x2 mw_n3 z6 z8 hcq) (va_cwS 2 hts (tw_gS wM_good wq_156 wq_157 wq_61 wq_155) rfl rfl rfl cd_X13_changeIn ⟨(Nat.le_of_ble_eq_true rfl), (Nat.le_of_ble_eq_true rfl)⟩) (mw_preS hK hN hM) rfl rfl hl.1 rfl (lv_room (Nat.le_of_ble_eq_true rfl)) dmX13_change_70 ⟨(Nat.le_of_ble_eq_true rfl), (Nat.le_of_ble_eq_true rfl)⟩) (fun H locs hM => ?_)
                refine lv_aload_n hx hb dmX13_change_73 rfl (lv_at hl 0 rfl) ?_
                obtain ⟨v10, z9, hcq, hq⟩ := tw_cl1 hq
                refine tw_cali hM (va_runV (As := []) (rest := []) ⟨hx, hb, hml, hown, hts⟩ (km_X13_keep l D q u hU K z8 z9 v10 hcq) (cwV 0 hts (tw_gV wM_good wq_123 wq_124 wq_125 wq_61 wq_99) rfl rfl rfl cd_X13_keep ⟨(Nat.le_of_ble_eq_true rfl), (Nat.le_of_ble_eq_true rfl)⟩) (mw_preV hK hN hM mo_0 rfl) rfl rfl hl.1 rfl (lv_room (Nat.le_of_ble_eq_true rfl)) dmX13_change_74 ⟨(Nat.le_of_ble_eq_true rfl), (Nat.le_of_ble_eq_true rfl)⟩) (fun H locs hM => ?_)
                exact mw_iret hx hb hr hlocks hM hq hQQ dmX13_change_77
              · have hq := tw_it hq hc
                refine lv_aload_n hx hb dmX13_change_59 rfl (lv_at hl 0 rfl) ?_
                refine lv_iconst (v := 2) hx hb dmX13_change_60 (by decide) ?_
                obtain ⟨v12, z11, hcq, hq⟩ := tw_cl1 hq
                refine tw_cali hM (va_runV (As := [.int 2]) (rest := []) ⟨hx, hb, hml, hown, hts⟩ (km_X13_fails l D q u hU K 2 z6 z11 v12 hcq) (cwV 1 hts (tw_gV wM_good wq_103 wq_104 wq_105 wq_61 wq_50) rfl rfl rfl cd_X13_fails ⟨(Nat.le_of_ble_eq_true rfl), (Nat.le_of_ble_eq_true rfl)⟩) (mw_preV hK hN hM mo_0 rfl) rfl rfl hl.1 rfl (lv_room (Nat.le_of_ble_eq_true rfl)) dmX13_change_61 ⟨(Nat.le_of_ble_eq_true rfl), (Nat.le_of_ble_eq_true rfl)⟩) (fun H locs hM => ?_)
                exact mw_iret hx hb hr hlocks hM hq hQQ dmX13_change_64
            · have hq := tw_if hq hc
              exact ih_1 x1 x2 z4 H locs ls hM (lv_sub hl [0, 1, 2] rfl) hq
        · have hq := tw_it hq hc
          refine lv_aload_n hx hb dmX13_change_13 rfl (lv_at hl 0 rfl) ?_
          refine lv_iconst (v := 1) hx hb dmX13_change_14 (by decide) ?_
          obtain ⟨v14, z13, hcq, hq⟩ := tw_cl1 hq
          refine tw_cali hM (va_runV (As := [.int 1]) (rest := []) ⟨hx, hb, hml, hown, hts⟩ (km_X13_fails l D q u hU K 1 z2 z13 v14 hcq) (cwV 1 hts (tw_gV wM_good wq_103 wq_104 wq_105 wq_61 wq_50) rfl rfl rfl cd_X13_fails ⟨(Nat.le_of_ble_eq_true rfl), (Nat.le_of_ble_eq_true rfl)⟩) (mw_preV hK hN hM mo_0 rfl) rfl rfl hl.1 rfl (lv_room (Nat.le_of_ble_eq_true rfl)) dmX13_change_15 ⟨(Nat.le_of_ble_eq_true rfl), (Nat.le_of_ble_eq_true rfl)⟩) (fun H locs hM => ?_)
          exact mw_iret hx hb hr hlocks hM hq hQQ dmX13_change_18
      · intro x1 x2 z H locs ls  hM hl hq
        have hq : qm_X13_change_1 K (q_X13_change K k) x1 x2 z = some (r, z1) := hq
        unfold qm_X13_change_1 at hq
        refine lv_aload_n hx hb dmX13_change_45 rfl (lv_at hl 0 rfl) ?_
        refine lv_iconst (v := 1) hx hb dmX13_change_46 (by decide) ?_
        obtain ⟨v16, z15, hcq, hq⟩ := tw_cl1 hq
        refine tw_cali hM (va_runV (As := [.int 1]) (rest := []) ⟨hx, hb, hml, hown, hts⟩ (km_X13_fails l D q u hU K 1 z z15 v16 hcq) (cwV 1 hts (tw_gV wM_good wq_103 wq_104 wq_105 wq_61 wq_50) rfl rfl rfl cd_X13_fails ⟨(Nat.le_of_ble_eq_true rfl), (Nat.le_of_ble_eq_true rfl)⟩) (mw_preV hK hN hM mo_0 rfl) rfl rfl hl.1 rfl (lv_room (Nat.le_of_ble_eq_true rfl)) dmX13_change_47 ⟨(Nat.le_of_ble_eq_true rfl), (Nat.le_of_ble_eq_true rfl)⟩) (fun H locs hM => ?_)
        exact mw_iret hx hb hr hlocks hM hq hQQ dmX13_change_50
  exact (key K).1 x1 x2 z s.heap [] ls  hM (lv_sub hl [0, 1, 2] rfl) hq
theorem dmX13_smoothIn_0 : decode cX13_smoothIn 0 = .ok (.aload 4, 2) := dw_at cX13_smoothIn_k0 (p := 0) rfl (by decide +kernel)
theorem dmX13_smoothIn_2 : decode cX13_smoothIn 2 = .ok (.invokevirtual 91, 3) := dw_at cX13_smoothIn_k0 (p := 2) rfl (by decide +kernel)
theorem dmX13_smoothIn_5 : decode cX13_smoothIn 5 = .ok (.aload 4, 2) := dw_at cX13_smoothIn_k0 (p := 5) rfl (by decide +kernel)
theorem dmX13_smoothIn_7 : decode cX13_smoothIn 7 = .ok (.aload_n 0, 1) := dw_at cX13_smoothIn_k0 (p := 7) rfl (by decide +kernel)
theorem dmX13_smoothIn_8 : decode cX13_smoothIn 8 = .ok (.invokevirtual 448, 3) := dw_at cX13_smoothIn_k0 (p := 8) rfl (by decide +kernel)
theorem dmX13_smoothIn_11 : decode cX13_smoothIn 11 = .ok (.iload_n 3, 1) := dw_at cX13_smoothIn_k0 (p := 11) rfl (by decide +kernel)
theorem dmX13_smoothIn_12 : decode cX13_smoothIn 12 = .ok (.aload_n 0, 1) := dw_at cX13_smoothIn_k0 (p := 12) rfl (by decide +kernel)
theorem dmX13_smoothIn_13 : decode cX13_smoothIn 13 = .ok (.getfield 452, 3) := dw_at cX13_smoothIn_k0 (p := 13) rfl (by decide +kernel)
theorem dmX13_smoothIn_16 : decode cX13_smoothIn 16 = .ok (.iload_n 1, 1) := dw_at cX13_smoothIn_k0 (p := 16) rfl (by decide +kernel)
theorem dmX13_smoothIn_17 : decode cX13_smoothIn 17 = .ok (.iconst 1, 1) := dw_at cX13_smoothIn_k0 (p := 17) rfl (by decide +kernel)
theorem dmX13_smoothIn_18 : decode cX13_smoothIn 18 = .ok (.iadd, 1) := dw_at cX13_smoothIn_k0 (p := 18) rfl (by decide +kernel)
theorem dmX13_smoothIn_19 : decode cX13_smoothIn 19 = .ok (.iaload, 1) := dw_at cX13_smoothIn_k0 (p := 19) rfl (by decide +kernel)
theorem dmX13_smoothIn_20 : decode cX13_smoothIn 20 = .ok (.if_icmp .ge 7, 3) := dw_at cX13_smoothIn_k0 (p := 20) rfl (by decide +kernel)
theorem dmX13_smoothIn_23 : decode cX13_smoothIn 23 = .ok (.iconst 1, 1) := dw_at cX13_smoothIn_k0 (p := 23) rfl (by decide +kernel)
theorem dmX13_smoothIn_24 : decode cX13_smoothIn 24 = .ok (.goto 4, 3) := dw_at cX13_smoothIn_k1 (p := 0) rfl (by decide +kernel)
theorem dmX13_smoothIn_27 : decode cX13_smoothIn 27 = .ok (.iconst 0, 1) := dw_at cX13_smoothIn_k1 (p := 3) rfl (by decide +kernel)
theorem dmX13_smoothIn_28 : decode cX13_smoothIn 28 = .ok (.istore 5, 2) := dw_at cX13_smoothIn_k1 (p := 4) rfl (by decide +kernel)
theorem dmX13_smoothIn_30 : decode cX13_smoothIn 30 = .ok (.iconst 0, 1) := dw_at cX13_smoothIn_k1 (p := 6) rfl (by decide +kernel)
theorem dmX13_smoothIn_31 : decode cX13_smoothIn 31 = .ok (.istore 6, 2) := dw_at cX13_smoothIn_k1 (p := 7) rfl (by decide +kernel)
theorem dmX13_smoothIn_33 : decode cX13_smoothIn 33 = .ok (.iload 6, 2) := dw_at cX13_smoothIn_k1 (p := 9) rfl (by decide +kernel)
theorem dmX13_smoothIn_35 : decode cX13_smoothIn 35 = .ok (.aload_n 0, 1) := dw_at cX13_smoothIn_k1 (p := 11) rfl (by decide +kernel)
theorem dmX13_smoothIn_36 : decode cX13_smoothIn 36 = .ok (.getfield 407, 3) := dw_at cX13_smoothIn_k1 (p := 12) rfl (by decide +kernel)
theorem dmX13_smoothIn_39 : decode cX13_smoothIn 39 = .ok (.if_icmp .ge 347, 3) := dw_at cX13_smoothIn_k1 (p := 15) rfl (by decide +kernel)
theorem dmX13_smoothIn_42 : decode cX13_smoothIn 42 = .ok (.iload 6, 2) := dw_at cX13_smoothIn_k1 (p := 18) rfl (by decide +kernel)
theorem dmX13_smoothIn_44 : decode cX13_smoothIn 44 = .ok (.iload_n 1, 1) := dw_at cX13_smoothIn_k1 (p := 20) rfl (by decide +kernel)
theorem dmX13_smoothIn_45 : decode cX13_smoothIn 45 = .ok (.if_icmp .ne 253, 3) := dw_at cX13_smoothIn_k1 (p := 21) rfl (by decide +kernel)
theorem dmX13_smoothIn_48 : decode cX13_smoothIn 48 = .ok (.aload_n 0, 1) := dw_at cX13_smoothIn_k2 (p := 0) rfl (by decide +kernel)
theorem dmX13_smoothIn_49 : decode cX13_smoothIn 49 = .ok (.getfield 452, 3) := dw_at cX13_smoothIn_k2 (p := 1) rfl (by decide +kernel)
theorem dmX13_smoothIn_52 : decode cX13_smoothIn 52 = .ok (.iload 6, 2) := dw_at cX13_smoothIn_k2 (p := 4) rfl (by decide +kernel)
theorem dmX13_smoothIn_54 : decode cX13_smoothIn 54 = .ok (.iaload, 1) := dw_at cX13_smoothIn_k2 (p := 6) rfl (by decide +kernel)
theorem dmX13_smoothIn_55 : decode cX13_smoothIn 55 = .ok (.istore 7, 2) := dw_at cX13_smoothIn_k2 (p := 7) rfl (by decide +kernel)
theorem dmX13_smoothIn_57 : decode cX13_smoothIn 57 = .ok (.iload 7, 2) := dw_at cX13_smoothIn_k2 (p := 9) rfl (by decide +kernel)
theorem dmX13_smoothIn_59 : decode cX13_smoothIn 59 = .ok (.iload_n 2, 1) := dw_at cX13_smoothIn_k2 (p := 11) rfl (by decide +kernel)
theorem dmX13_smoothIn_60 : decode cX13_smoothIn 60 = .ok (.if_icmp .ge 28, 3) := dw_at cX13_smoothIn_k2 (p := 12) rfl (by decide +kernel)
theorem dmX13_smoothIn_63 : decode cX13_smoothIn 63 = .ok (.aload 4, 2) := dw_at cX13_smoothIn_k2 (p := 15) rfl (by decide +kernel)
theorem dmX13_smoothIn_65 : decode cX13_smoothIn 65 = .ok (.aload_n 0, 1) := dw_at cX13_smoothIn_k2 (p := 17) rfl (by decide +kernel)
theorem dmX13_smoothIn_66 : decode cX13_smoothIn 66 = .ok (.getfield 23, 3) := dw_at cX13_smoothIn_k2 (p := 18) rfl (by decide +kernel)
theorem dmX13_smoothIn_69 : decode cX13_smoothIn 69 = .ok (.iload 7, 2) := dw_at cX13_smoothIn_k2 (p := 21) rfl (by decide +kernel)
theorem dmX13_smoothIn_71 : decode cX13_smoothIn 71 = .ok (.iaload, 1) := dw_at cX13_smoothIn_k2 (p := 23) rfl (by decide +kernel)
theorem dmX13_smoothIn_72 : decode cX13_smoothIn 72 = .ok (.aload_n 0, 1) := dw_at cX13_smoothIn_k3 (p := 0) rfl (by decide +kernel)
theorem dmX13_smoothIn_73 : decode cX13_smoothIn 73 = .ok (.getfield 32, 3) := dw_at cX13_smoothIn_k3 (p := 1) rfl (by decide +kernel)
theorem dmX13_smoothIn_76 : decode cX13_smoothIn 76 = .ok (.iload 7, 2) := dw_at cX13_smoothIn_k3 (p := 4) rfl (by decide +kernel)
theorem dmX13_smoothIn_78 : decode cX13_smoothIn 78 = .ok (.iaload, 1) := dw_at cX13_smoothIn_k3 (p := 6) rfl (by decide +kernel)
theorem dmX13_smoothIn_79 : decode cX13_smoothIn 79 = .ok (.invokevirtual 97, 3) := dw_at cX13_smoothIn_k3 (p := 7) rfl (by decide +kernel)
theorem dmX13_smoothIn_82 : decode cX13_smoothIn 82 = .ok (.iinc 7 1, 3) := dw_at cX13_smoothIn_k3 (p := 10) rfl (by decide +kernel)
theorem dmX13_smoothIn_85 : decode cX13_smoothIn 85 = .ok (.goto (-28), 3) := dw_at cX13_smoothIn_k3 (p := 13) rfl (by decide +kernel)
theorem dmX13_smoothIn_88 : decode cX13_smoothIn 88 = .ok (.iload 5, 2) := dw_at cX13_smoothIn_k3 (p := 16) rfl (by decide +kernel)
theorem dmX13_smoothIn_90 : decode cX13_smoothIn 90 = .ok (.ifCond .eq 50, 3) := dw_at cX13_smoothIn_k3 (p := 18) rfl (by decide +kernel)
theorem dmX13_smoothIn_93 : decode cX13_smoothIn 93 = .ok (.iload_n 3, 1) := dw_at cX13_smoothIn_k3 (p := 21) rfl (by decide +kernel)
theorem dmX13_smoothIn_94 : decode cX13_smoothIn 94 = .ok (.iconst 1, 1) := dw_at cX13_smoothIn_k3 (p := 22) rfl (by decide +kernel)
theorem dmX13_smoothIn_95 : decode cX13_smoothIn 95 = .ok (.iadd, 1) := dw_at cX13_smoothIn_k3 (p := 23) rfl (by decide +kernel)
theorem dmX13_smoothIn_96 : decode cX13_smoothIn 96 = .ok (.istore 7, 2) := dw_at cX13_smoothIn_k4 (p := 0) rfl (by decide +kernel)
theorem dmX13_smoothIn_98 : decode cX13_smoothIn 98 = .ok (.iload 7, 2) := dw_at cX13_smoothIn_k4 (p := 2) rfl (by decide +kernel)
theorem dmX13_smoothIn_100 : decode cX13_smoothIn 100 = .ok (.aload_n 0, 1) := dw_at cX13_smoothIn_k4 (p := 4) rfl (by decide +kernel)
theorem dmX13_smoothIn_101 : decode cX13_smoothIn 101 = .ok (.getfield 452, 3) := dw_at cX13_smoothIn_k4 (p := 5) rfl (by decide +kernel)
theorem dmX13_smoothIn_104 : decode cX13_smoothIn 104 = .ok (.iload 6, 2) := dw_at cX13_smoothIn_k4 (p := 8) rfl (by decide +kernel)
theorem dmX13_smoothIn_106 : decode cX13_smoothIn 106 = .ok (.iconst 1, 1) := dw_at cX13_smoothIn_k4 (p := 10) rfl (by decide +kernel)
theorem dmX13_smoothIn_107 : decode cX13_smoothIn 107 = .ok (.iadd, 1) := dw_at cX13_smoothIn_k4 (p := 11) rfl (by decide +kernel)
theorem dmX13_smoothIn_108 : decode cX13_smoothIn 108 = .ok (.iaload, 1) := dw_at cX13_smoothIn_k4 (p := 12) rfl (by decide +kernel)
theorem dmX13_smoothIn_109 : decode cX13_smoothIn 109 = .ok (.if_icmp .ge 28, 3) := dw_at cX13_smoothIn_k4 (p := 13) rfl (by decide +kernel)
theorem dmX13_smoothIn_112 : decode cX13_smoothIn 112 = .ok (.aload 4, 2) := dw_at cX13_smoothIn_k4 (p := 16) rfl (by decide +kernel)
theorem dmX13_smoothIn_114 : decode cX13_smoothIn 114 = .ok (.aload_n 0, 1) := dw_at cX13_smoothIn_k4 (p := 18) rfl (by decide +kernel)
theorem dmX13_smoothIn_115 : decode cX13_smoothIn 115 = .ok (.getfield 23, 3) := dw_at cX13_smoothIn_k4 (p := 19) rfl (by decide +kernel)
theorem dmX13_smoothIn_118 : decode cX13_smoothIn 118 = .ok (.iload 7, 2) := dw_at cX13_smoothIn_k4 (p := 22) rfl (by decide +kernel)
theorem dmX13_smoothIn_120 : decode cX13_smoothIn 120 = .ok (.iaload, 1) := dw_at cX13_smoothIn_k5 (p := 0) rfl (by decide +kernel)
theorem dmX13_smoothIn_121 : decode cX13_smoothIn 121 = .ok (.aload_n 0, 1) := dw_at cX13_smoothIn_k5 (p := 1) rfl (by decide +kernel)
theorem dmX13_smoothIn_122 : decode cX13_smoothIn 122 = .ok (.getfield 32, 3) := dw_at cX13_smoothIn_k5 (p := 2) rfl (by decide +kernel)
theorem dmX13_smoothIn_125 : decode cX13_smoothIn 125 = .ok (.iload 7, 2) := dw_at cX13_smoothIn_k5 (p := 5) rfl (by decide +kernel)
theorem dmX13_smoothIn_127 : decode cX13_smoothIn 127 = .ok (.iaload, 1) := dw_at cX13_smoothIn_k5 (p := 7) rfl (by decide +kernel)
theorem dmX13_smoothIn_128 : decode cX13_smoothIn 128 = .ok (.invokevirtual 97, 3) := dw_at cX13_smoothIn_k5 (p := 8) rfl (by decide +kernel)
theorem dmX13_smoothIn_131 : decode cX13_smoothIn 131 = .ok (.iinc 7 1, 3) := dw_at cX13_smoothIn_k5 (p := 11) rfl (by decide +kernel)
theorem dmX13_smoothIn_134 : decode cX13_smoothIn 134 = .ok (.goto (-36), 3) := dw_at cX13_smoothIn_k5 (p := 14) rfl (by decide +kernel)
theorem dmX13_smoothIn_137 : decode cX13_smoothIn 137 = .ok (.goto 153, 3) := dw_at cX13_smoothIn_k5 (p := 17) rfl (by decide +kernel)
theorem dmX13_smoothIn_140 : decode cX13_smoothIn 140 = .ok (.iconst 0, 1) := dw_at cX13_smoothIn_k5 (p := 20) rfl (by decide +kernel)
theorem dmX13_smoothIn_141 : decode cX13_smoothIn 141 = .ok (.istore 7, 2) := dw_at cX13_smoothIn_k5 (p := 21) rfl (by decide +kernel)
theorem dmX13_smoothIn_143 : decode cX13_smoothIn 143 = .ok (.aload_n 0, 1) := dw_at cX13_smoothIn_k5 (p := 23) rfl (by decide +kernel)
theorem dmX13_smoothIn_144 : decode cX13_smoothIn 144 = .ok (.getfield 452, 3) := dw_at cX13_smoothIn_k6 (p := 0) rfl (by decide +kernel)
theorem dmX13_smoothIn_147 : decode cX13_smoothIn 147 = .ok (.iload 7, 2) := dw_at cX13_smoothIn_k6 (p := 3) rfl (by decide +kernel)
theorem dmX13_smoothIn_149 : decode cX13_smoothIn 149 = .ok (.iconst 1, 1) := dw_at cX13_smoothIn_k6 (p := 5) rfl (by decide +kernel)
theorem dmX13_smoothIn_150 : decode cX13_smoothIn 150 = .ok (.iadd, 1) := dw_at cX13_smoothIn_k6 (p := 6) rfl (by decide +kernel)
theorem dmX13_smoothIn_151 : decode cX13_smoothIn 151 = .ok (.iaload, 1) := dw_at cX13_smoothIn_k6 (p := 7) rfl (by decide +kernel)
theorem dmX13_smoothIn_152 : decode cX13_smoothIn 152 = .ok (.iload_n 3, 1) := dw_at cX13_smoothIn_k6 (p := 8) rfl (by decide +kernel)
theorem dmX13_smoothIn_153 : decode cX13_smoothIn 153 = .ok (.if_icmp .gt 9, 3) := dw_at cX13_smoothIn_k6 (p := 9) rfl (by decide +kernel)
theorem dmX13_smoothIn_156 : decode cX13_smoothIn 156 = .ok (.iinc 7 1, 3) := dw_at cX13_smoothIn_k6 (p := 12) rfl (by decide +kernel)
theorem dmX13_smoothIn_159 : decode cX13_smoothIn 159 = .ok (.goto (-16), 3) := dw_at cX13_smoothIn_k6 (p := 15) rfl (by decide +kernel)
theorem dmX13_smoothIn_162 : decode cX13_smoothIn 162 = .ok (.iload_n 3, 1) := dw_at cX13_smoothIn_k6 (p := 18) rfl (by decide +kernel)
theorem dmX13_smoothIn_163 : decode cX13_smoothIn 163 = .ok (.iconst 1, 1) := dw_at cX13_smoothIn_k6 (p := 19) rfl (by decide +kernel)
theorem dmX13_smoothIn_164 : decode cX13_smoothIn 164 = .ok (.iadd, 1) := dw_at cX13_smoothIn_k6 (p := 20) rfl (by decide +kernel)
theorem dmX13_smoothIn_165 : decode cX13_smoothIn 165 = .ok (.istore 8, 2) := dw_at cX13_smoothIn_k6 (p := 21) rfl (by decide +kernel)
theorem dmX13_smoothIn_167 : decode cX13_smoothIn 167 = .ok (.iload 8, 2) := dw_at cX13_smoothIn_k6 (p := 23) rfl (by decide +kernel)
theorem dmX13_smoothIn_169 : decode cX13_smoothIn 169 = .ok (.aload_n 0, 1) := dw_at cX13_smoothIn_k7 (p := 0) rfl (by decide +kernel)
theorem dmX13_smoothIn_170 : decode cX13_smoothIn 170 = .ok (.getfield 452, 3) := dw_at cX13_smoothIn_k7 (p := 1) rfl (by decide +kernel)
theorem dmX13_smoothIn_173 : decode cX13_smoothIn 173 = .ok (.iload 7, 2) := dw_at cX13_smoothIn_k7 (p := 4) rfl (by decide +kernel)
theorem dmX13_smoothIn_175 : decode cX13_smoothIn 175 = .ok (.iconst 1, 1) := dw_at cX13_smoothIn_k7 (p := 6) rfl (by decide +kernel)
theorem dmX13_smoothIn_176 : decode cX13_smoothIn 176 = .ok (.iadd, 1) := dw_at cX13_smoothIn_k7 (p := 7) rfl (by decide +kernel)
theorem dmX13_smoothIn_177 : decode cX13_smoothIn 177 = .ok (.iaload, 1) := dw_at cX13_smoothIn_k7 (p := 8) rfl (by decide +kernel)
theorem dmX13_smoothIn_178 : decode cX13_smoothIn 178 = .ok (.if_icmp .ge 28, 3) := dw_at cX13_smoothIn_k7 (p := 9) rfl (by decide +kernel)
theorem dmX13_smoothIn_181 : decode cX13_smoothIn 181 = .ok (.aload 4, 2) := dw_at cX13_smoothIn_k7 (p := 12) rfl (by decide +kernel)
theorem dmX13_smoothIn_183 : decode cX13_smoothIn 183 = .ok (.aload_n 0, 1) := dw_at cX13_smoothIn_k7 (p := 14) rfl (by decide +kernel)
theorem dmX13_smoothIn_184 : decode cX13_smoothIn 184 = .ok (.getfield 23, 3) := dw_at cX13_smoothIn_k7 (p := 15) rfl (by decide +kernel)
theorem dmX13_smoothIn_187 : decode cX13_smoothIn 187 = .ok (.iload 8, 2) := dw_at cX13_smoothIn_k7 (p := 18) rfl (by decide +kernel)
theorem dmX13_smoothIn_189 : decode cX13_smoothIn 189 = .ok (.iaload, 1) := dw_at cX13_smoothIn_k7 (p := 20) rfl (by decide +kernel)
theorem dmX13_smoothIn_190 : decode cX13_smoothIn 190 = .ok (.aload_n 0, 1) := dw_at cX13_smoothIn_k7 (p := 21) rfl (by decide +kernel)
theorem dmX13_smoothIn_191 : decode cX13_smoothIn 191 = .ok (.getfield 32, 3) := dw_at cX13_smoothIn_k7 (p := 22) rfl (by decide +kernel)
theorem dmX13_smoothIn_194 : decode cX13_smoothIn 194 = .ok (.iload 8, 2) := dw_at cX13_smoothIn_k8 (p := 0) rfl (by decide +kernel)
theorem dmX13_smoothIn_196 : decode cX13_smoothIn 196 = .ok (.iaload, 1) := dw_at cX13_smoothIn_k8 (p := 2) rfl (by decide +kernel)
theorem dmX13_smoothIn_197 : decode cX13_smoothIn 197 = .ok (.invokevirtual 97, 3) := dw_at cX13_smoothIn_k8 (p := 3) rfl (by decide +kernel)
theorem dmX13_smoothIn_200 : decode cX13_smoothIn 200 = .ok (.iinc 8 1, 3) := dw_at cX13_smoothIn_k8 (p := 6) rfl (by decide +kernel)
theorem dmX13_smoothIn_203 : decode cX13_smoothIn 203 = .ok (.goto (-36), 3) := dw_at cX13_smoothIn_k8 (p := 9) rfl (by decide +kernel)
theorem dmX13_smoothIn_206 : decode cX13_smoothIn 206 = .ok (.aload_n 0, 1) := dw_at cX13_smoothIn_k8 (p := 12) rfl (by decide +kernel)
theorem dmX13_smoothIn_207 : decode cX13_smoothIn 207 = .ok (.getfield 452, 3) := dw_at cX13_smoothIn_k8 (p := 13) rfl (by decide +kernel)
theorem dmX13_smoothIn_210 : decode cX13_smoothIn 210 = .ok (.iload 7, 2) := dw_at cX13_smoothIn_k8 (p := 16) rfl (by decide +kernel)
theorem dmX13_smoothIn_212 : decode cX13_smoothIn 212 = .ok (.iaload, 1) := dw_at cX13_smoothIn_k8 (p := 18) rfl (by decide +kernel)
theorem dmX13_smoothIn_213 : decode cX13_smoothIn 213 = .ok (.istore 8, 2) := dw_at cX13_smoothIn_k8 (p := 19) rfl (by decide +kernel)
theorem dmX13_smoothIn_215 : decode cX13_smoothIn 215 = .ok (.iload 8, 2) := dw_at cX13_smoothIn_k8 (p := 21) rfl (by decide +kernel)
theorem dmX13_smoothIn_217 : decode cX13_smoothIn 217 = .ok (.iload_n 3, 1) := dw_at cX13_smoothIn_k8 (p := 23) rfl (by decide +kernel)
theorem dmX13_smoothIn_218 : decode cX13_smoothIn 218 = .ok (.if_icmp .ge 28, 3) := dw_at cX13_smoothIn_k9 (p := 0) rfl (by decide +kernel)
theorem dmX13_smoothIn_221 : decode cX13_smoothIn 221 = .ok (.aload 4, 2) := dw_at cX13_smoothIn_k9 (p := 3) rfl (by decide +kernel)
theorem dmX13_smoothIn_223 : decode cX13_smoothIn 223 = .ok (.aload_n 0, 1) := dw_at cX13_smoothIn_k9 (p := 5) rfl (by decide +kernel)
theorem dmX13_smoothIn_224 : decode cX13_smoothIn 224 = .ok (.getfield 23, 3) := dw_at cX13_smoothIn_k9 (p := 6) rfl (by decide +kernel)
theorem dmX13_smoothIn_227 : decode cX13_smoothIn 227 = .ok (.iload 8, 2) := dw_at cX13_smoothIn_k9 (p := 9) rfl (by decide +kernel)
theorem dmX13_smoothIn_229 : decode cX13_smoothIn 229 = .ok (.iaload, 1) := dw_at cX13_smoothIn_k9 (p := 11) rfl (by decide +kernel)
theorem dmX13_smoothIn_230 : decode cX13_smoothIn 230 = .ok (.aload_n 0, 1) := dw_at cX13_smoothIn_k9 (p := 12) rfl (by decide +kernel)
theorem dmX13_smoothIn_231 : decode cX13_smoothIn 231 = .ok (.getfield 32, 3) := dw_at cX13_smoothIn_k9 (p := 13) rfl (by decide +kernel)
theorem dmX13_smoothIn_234 : decode cX13_smoothIn 234 = .ok (.iload 8, 2) := dw_at cX13_smoothIn_k9 (p := 16) rfl (by decide +kernel)
theorem dmX13_smoothIn_236 : decode cX13_smoothIn 236 = .ok (.iaload, 1) := dw_at cX13_smoothIn_k9 (p := 18) rfl (by decide +kernel)
theorem dmX13_smoothIn_237 : decode cX13_smoothIn 237 = .ok (.invokevirtual 97, 3) := dw_at cX13_smoothIn_k9 (p := 19) rfl (by decide +kernel)
theorem dmX13_smoothIn_240 : decode cX13_smoothIn 240 = .ok (.iinc 8 1, 3) := dw_at cX13_smoothIn_k9 (p := 22) rfl (by decide +kernel)
theorem dmX13_smoothIn_243 : decode cX13_smoothIn 243 = .ok (.goto (-28), 3) := dw_at cX13_smoothIn_k10 (p := 0) rfl (by decide +kernel)
theorem dmX13_smoothIn_246 : decode cX13_smoothIn 246 = .ok (.iload_n 2, 1) := dw_at cX13_smoothIn_k10 (p := 3) rfl (by decide +kernel)
theorem dmX13_smoothIn_247 : decode cX13_smoothIn 247 = .ok (.iconst 1, 1) := dw_at cX13_smoothIn_k10 (p := 4) rfl (by decide +kernel)
theorem dmX13_smoothIn_248 : decode cX13_smoothIn 248 = .ok (.iadd, 1) := dw_at cX13_smoothIn_k10 (p := 5) rfl (by decide +kernel)
theorem dmX13_smoothIn_249 : decode cX13_smoothIn 249 = .ok (.istore 8, 2) := dw_at cX13_smoothIn_k10 (p := 6) rfl (by decide +kernel)
theorem dmX13_smoothIn_251 : decode cX13_smoothIn 251 = .ok (.iload 8, 2) := dw_at cX13_smoothIn_k10 (p := 8) rfl (by decide +kernel)
theorem dmX13_smoothIn_253 : decode cX13_smoothIn 253 = .ok (.aload_n 0, 1) := dw_at cX13_smoothIn_k10 (p := 10) rfl (by decide +kernel)
theorem dmX13_smoothIn_254 : decode cX13_smoothIn 254 = .ok (.getfield 452, 3) := dw_at cX13_smoothIn_k10 (p := 11) rfl (by decide +kernel)
theorem dmX13_smoothIn_257 : decode cX13_smoothIn 257 = .ok (.iload 6, 2) := dw_at cX13_smoothIn_k10 (p := 14) rfl (by decide +kernel)
theorem dmX13_smoothIn_259 : decode cX13_smoothIn 259 = .ok (.iconst 1, 1) := dw_at cX13_smoothIn_k10 (p := 16) rfl (by decide +kernel)
theorem dmX13_smoothIn_260 : decode cX13_smoothIn 260 = .ok (.iadd, 1) := dw_at cX13_smoothIn_k10 (p := 17) rfl (by decide +kernel)
theorem dmX13_smoothIn_261 : decode cX13_smoothIn 261 = .ok (.iaload, 1) := dw_at cX13_smoothIn_k10 (p := 18) rfl (by decide +kernel)
theorem dmX13_smoothIn_262 : decode cX13_smoothIn 262 = .ok (.if_icmp .ge 28, 3) := dw_at cX13_smoothIn_k10 (p := 19) rfl (by decide +kernel)
theorem dmX13_smoothIn_265 : decode cX13_smoothIn 265 = .ok (.aload 4, 2) := dw_at cX13_smoothIn_k10 (p := 22) rfl (by decide +kernel)
theorem dmX13_smoothIn_267 : decode cX13_smoothIn 267 = .ok (.aload_n 0, 1) := dw_at cX13_smoothIn_k11 (p := 0) rfl (by decide +kernel)
theorem dmX13_smoothIn_268 : decode cX13_smoothIn 268 = .ok (.getfield 23, 3) := dw_at cX13_smoothIn_k11 (p := 1) rfl (by decide +kernel)
theorem dmX13_smoothIn_271 : decode cX13_smoothIn 271 = .ok (.iload 8, 2) := dw_at cX13_smoothIn_k11 (p := 4) rfl (by decide +kernel)
theorem dmX13_smoothIn_273 : decode cX13_smoothIn 273 = .ok (.iaload, 1) := dw_at cX13_smoothIn_k11 (p := 6) rfl (by decide +kernel)
theorem dmX13_smoothIn_274 : decode cX13_smoothIn 274 = .ok (.aload_n 0, 1) := dw_at cX13_smoothIn_k11 (p := 7) rfl (by decide +kernel)
theorem dmX13_smoothIn_275 : decode cX13_smoothIn 275 = .ok (.getfield 32, 3) := dw_at cX13_smoothIn_k11 (p := 8) rfl (by decide +kernel)
theorem dmX13_smoothIn_278 : decode cX13_smoothIn 278 = .ok (.iload 8, 2) := dw_at cX13_smoothIn_k11 (p := 11) rfl (by decide +kernel)
theorem dmX13_smoothIn_280 : decode cX13_smoothIn 280 = .ok (.iaload, 1) := dw_at cX13_smoothIn_k11 (p := 13) rfl (by decide +kernel)
theorem dmX13_smoothIn_281 : decode cX13_smoothIn 281 = .ok (.invokevirtual 97, 3) := dw_at cX13_smoothIn_k11 (p := 14) rfl (by decide +kernel)
theorem dmX13_smoothIn_284 : decode cX13_smoothIn 284 = .ok (.iinc 8 1, 3) := dw_at cX13_smoothIn_k11 (p := 17) rfl (by decide +kernel)
theorem dmX13_smoothIn_287 : decode cX13_smoothIn 287 = .ok (.goto (-36), 3) := dw_at cX13_smoothIn_k11 (p := 20) rfl (by decide +kernel)
theorem dmX13_smoothIn_290 : decode cX13_smoothIn 290 = .ok (.aload 4, 2) := dw_at cX13_smoothIn_k11 (p := 23) rfl (by decide +kernel)
theorem dmX13_smoothIn_292 : decode cX13_smoothIn 292 = .ok (.invokevirtual 94, 3) := dw_at cX13_smoothIn_k12 (p := 0) rfl (by decide +kernel)
theorem dmX13_smoothIn_295 : decode cX13_smoothIn 295 = .ok (.goto 85, 3) := dw_at cX13_smoothIn_k12 (p := 3) rfl (by decide +kernel)
theorem dmX13_smoothIn_298 : decode cX13_smoothIn 298 = .ok (.iload 5, 2) := dw_at cX13_smoothIn_k12 (p := 6) rfl (by decide +kernel)
theorem dmX13_smoothIn_300 : decode cX13_smoothIn 300 = .ok (.ifCond .ne 27, 3) := dw_at cX13_smoothIn_k12 (p := 8) rfl (by decide +kernel)
theorem dmX13_smoothIn_303 : decode cX13_smoothIn 303 = .ok (.iload_n 3, 1) := dw_at cX13_smoothIn_k12 (p := 11) rfl (by decide +kernel)
theorem dmX13_smoothIn_304 : decode cX13_smoothIn 304 = .ok (.aload_n 0, 1) := dw_at cX13_smoothIn_k12 (p := 12) rfl (by decide +kernel)
theorem dmX13_smoothIn_305 : decode cX13_smoothIn 305 = .ok (.getfield 452, 3) := dw_at cX13_smoothIn_k12 (p := 13) rfl (by decide +kernel)
theorem dmX13_smoothIn_308 : decode cX13_smoothIn 308 = .ok (.iload 6, 2) := dw_at cX13_smoothIn_k12 (p := 16) rfl (by decide +kernel)
theorem dmX13_smoothIn_310 : decode cX13_smoothIn 310 = .ok (.iaload, 1) := dw_at cX13_smoothIn_k12 (p := 18) rfl (by decide +kernel)
theorem dmX13_smoothIn_311 : decode cX13_smoothIn 311 = .ok (.if_icmp .lt 16, 3) := dw_at cX13_smoothIn_k12 (p := 19) rfl (by decide +kernel)
theorem dmX13_smoothIn_314 : decode cX13_smoothIn 314 = .ok (.iload_n 3, 1) := dw_at cX13_smoothIn_k12 (p := 22) rfl (by decide +kernel)
theorem dmX13_smoothIn_315 : decode cX13_smoothIn 315 = .ok (.aload_n 0, 1) := dw_at cX13_smoothIn_k12 (p := 23) rfl (by decide +kernel)
theorem dmX13_smoothIn_316 : decode cX13_smoothIn 316 = .ok (.getfield 452, 3) := dw_at cX13_smoothIn_k13 (p := 0) rfl (by decide +kernel)
theorem dmX13_smoothIn_319 : decode cX13_smoothIn 319 = .ok (.iload 6, 2) := dw_at cX13_smoothIn_k13 (p := 3) rfl (by decide +kernel)
theorem dmX13_smoothIn_321 : decode cX13_smoothIn 321 = .ok (.iconst 1, 1) := dw_at cX13_smoothIn_k13 (p := 5) rfl (by decide +kernel)
theorem dmX13_smoothIn_322 : decode cX13_smoothIn 322 = .ok (.iadd, 1) := dw_at cX13_smoothIn_k13 (p := 6) rfl (by decide +kernel)
theorem dmX13_smoothIn_323 : decode cX13_smoothIn 323 = .ok (.iaload, 1) := dw_at cX13_smoothIn_k13 (p := 7) rfl (by decide +kernel)
theorem dmX13_smoothIn_324 : decode cX13_smoothIn 324 = .ok (.if_icmp .lt 56, 3) := dw_at cX13_smoothIn_k13 (p := 8) rfl (by decide +kernel)
theorem dmX13_smoothIn_327 : decode cX13_smoothIn 327 = .ok (.aload_n 0, 1) := dw_at cX13_smoothIn_k13 (p := 11) rfl (by decide +kernel)
theorem dmX13_smoothIn_328 : decode cX13_smoothIn 328 = .ok (.getfield 452, 3) := dw_at cX13_smoothIn_k13 (p := 12) rfl (by decide +kernel)
theorem dmX13_smoothIn_331 : decode cX13_smoothIn 331 = .ok (.iload 6, 2) := dw_at cX13_smoothIn_k13 (p := 15) rfl (by decide +kernel)
theorem dmX13_smoothIn_333 : decode cX13_smoothIn 333 = .ok (.iaload, 1) := dw_at cX13_smoothIn_k13 (p := 17) rfl (by decide +kernel)
theorem dmX13_smoothIn_334 : decode cX13_smoothIn 334 = .ok (.istore 7, 2) := dw_at cX13_smoothIn_k13 (p := 18) rfl (by decide +kernel)
theorem dmX13_smoothIn_336 : decode cX13_smoothIn 336 = .ok (.iload 7, 2) := dw_at cX13_smoothIn_k13 (p := 20) rfl (by decide +kernel)
theorem dmX13_smoothIn_338 : decode cX13_smoothIn 338 = .ok (.aload_n 0, 1) := dw_at cX13_smoothIn_k13 (p := 22) rfl (by decide +kernel)
theorem dmX13_smoothIn_339 : decode cX13_smoothIn 339 = .ok (.getfield 452, 3) := dw_at cX13_smoothIn_k13 (p := 23) rfl (by decide +kernel)
theorem dmX13_smoothIn_342 : decode cX13_smoothIn 342 = .ok (.iload 6, 2) := dw_at cX13_smoothIn_k14 (p := 0) rfl (by decide +kernel)
theorem dmX13_smoothIn_344 : decode cX13_smoothIn 344 = .ok (.iconst 1, 1) := dw_at cX13_smoothIn_k14 (p := 2) rfl (by decide +kernel)
theorem dmX13_smoothIn_345 : decode cX13_smoothIn 345 = .ok (.iadd, 1) := dw_at cX13_smoothIn_k14 (p := 3) rfl (by decide +kernel)
theorem dmX13_smoothIn_346 : decode cX13_smoothIn 346 = .ok (.iaload, 1) := dw_at cX13_smoothIn_k14 (p := 4) rfl (by decide +kernel)
theorem dmX13_smoothIn_347 : decode cX13_smoothIn 347 = .ok (.if_icmp .ge 28, 3) := dw_at cX13_smoothIn_k14 (p := 5) rfl (by decide +kernel)
theorem dmX13_smoothIn_350 : decode cX13_smoothIn 350 = .ok (.aload 4, 2) := dw_at cX13_smoothIn_k14 (p := 8) rfl (by decide +kernel)
theorem dmX13_smoothIn_352 : decode cX13_smoothIn 352 = .ok (.aload_n 0, 1) := dw_at cX13_smoothIn_k14 (p := 10) rfl (by decide +kernel)
theorem dmX13_smoothIn_353 : decode cX13_smoothIn 353 = .ok (.getfield 23, 3) := dw_at cX13_smoothIn_k14 (p := 11) rfl (by decide +kernel)
theorem dmX13_smoothIn_356 : decode cX13_smoothIn 356 = .ok (.iload 7, 2) := dw_at cX13_smoothIn_k14 (p := 14) rfl (by decide +kernel)
theorem dmX13_smoothIn_358 : decode cX13_smoothIn 358 = .ok (.iaload, 1) := dw_at cX13_smoothIn_k14 (p := 16) rfl (by decide +kernel)
theorem dmX13_smoothIn_359 : decode cX13_smoothIn 359 = .ok (.aload_n 0, 1) := dw_at cX13_smoothIn_k14 (p := 17) rfl (by decide +kernel)
theorem dmX13_smoothIn_360 : decode cX13_smoothIn 360 = .ok (.getfield 32, 3) := dw_at cX13_smoothIn_k14 (p := 18) rfl (by decide +kernel)
theorem dmX13_smoothIn_363 : decode cX13_smoothIn 363 = .ok (.iload 7, 2) := dw_at cX13_smoothIn_k14 (p := 21) rfl (by decide +kernel)
theorem dmX13_smoothIn_365 : decode cX13_smoothIn 365 = .ok (.iaload, 1) := dw_at cX13_smoothIn_k14 (p := 23) rfl (by decide +kernel)
theorem dmX13_smoothIn_366 : decode cX13_smoothIn 366 = .ok (.invokevirtual 97, 3) := dw_at cX13_smoothIn_k15 (p := 0) rfl (by decide +kernel)
theorem dmX13_smoothIn_369 : decode cX13_smoothIn 369 = .ok (.iinc 7 1, 3) := dw_at cX13_smoothIn_k15 (p := 3) rfl (by decide +kernel)
theorem dmX13_smoothIn_372 : decode cX13_smoothIn 372 = .ok (.goto (-36), 3) := dw_at cX13_smoothIn_k15 (p := 6) rfl (by decide +kernel)
theorem dmX13_smoothIn_375 : decode cX13_smoothIn 375 = .ok (.aload 4, 2) := dw_at cX13_smoothIn_k15 (p := 9) rfl (by decide +kernel)
theorem dmX13_smoothIn_377 : decode cX13_smoothIn 377 = .ok (.invokevirtual 94, 3) := dw_at cX13_smoothIn_k15 (p := 11) rfl (by decide +kernel)
theorem dmX13_smoothIn_380 : decode cX13_smoothIn 380 = .ok (.iinc 6 1, 3) := dw_at cX13_smoothIn_k15 (p := 14) rfl (by decide +kernel)
theorem dmX13_smoothIn_383 : decode cX13_smoothIn 383 = .ok (.goto (-350), 3) := dw_at cX13_smoothIn_k15 (p := 17) rfl (by decide +kernel)
theorem dmX13_smoothIn_386 : decode cX13_smoothIn 386 = .ok (.iload 5, 2) := dw_at cX13_smoothIn_k15 (p := 20) rfl (by decide +kernel)
theorem dmX13_smoothIn_388 : decode cX13_smoothIn 388 = .ok (.ifCond .eq 44, 3) := dw_at cX13_smoothIn_k15 (p := 22) rfl (by decide +kernel)
theorem dmX13_smoothIn_391 : decode cX13_smoothIn 391 = .ok (.iload_n 2, 1) := dw_at cX13_smoothIn_k16 (p := 0) rfl (by decide +kernel)
theorem dmX13_smoothIn_392 : decode cX13_smoothIn 392 = .ok (.iconst 1, 1) := dw_at cX13_smoothIn_k16 (p := 1) rfl (by decide +kernel)
theorem dmX13_smoothIn_393 : decode cX13_smoothIn 393 = .ok (.iadd, 1) := dw_at cX13_smoothIn_k16 (p := 2) rfl (by decide +kernel)
theorem dmX13_smoothIn_394 : decode cX13_smoothIn 394 = .ok (.istore 6, 2) := dw_at cX13_smoothIn_k16 (p := 3) rfl (by decide +kernel)
theorem dmX13_smoothIn_396 : decode cX13_smoothIn 396 = .ok (.iload 6, 2) := dw_at cX13_smoothIn_k16 (p := 5) rfl (by decide +kernel)
theorem dmX13_smoothIn_398 : decode cX13_smoothIn 398 = .ok (.iload_n 3, 1) := dw_at cX13_smoothIn_k16 (p := 7) rfl (by decide +kernel)
theorem dmX13_smoothIn_399 : decode cX13_smoothIn 399 = .ok (.if_icmp .ge 28, 3) := dw_at cX13_smoothIn_k16 (p := 8) rfl (by decide +kernel)
theorem dmX13_smoothIn_402 : decode cX13_smoothIn 402 = .ok (.aload 4, 2) := dw_at cX13_smoothIn_k16 (p := 11) rfl (by decide +kernel)
theorem dmX13_smoothIn_404 : decode cX13_smoothIn 404 = .ok (.aload_n 0, 1) := dw_at cX13_smoothIn_k16 (p := 13) rfl (by decide +kernel)
theorem dmX13_smoothIn_405 : decode cX13_smoothIn 405 = .ok (.getfield 23, 3) := dw_at cX13_smoothIn_k16 (p := 14) rfl (by decide +kernel)
theorem dmX13_smoothIn_408 : decode cX13_smoothIn 408 = .ok (.iload 6, 2) := dw_at cX13_smoothIn_k16 (p := 17) rfl (by decide +kernel)
theorem dmX13_smoothIn_410 : decode cX13_smoothIn 410 = .ok (.iaload, 1) := dw_at cX13_smoothIn_k16 (p := 19) rfl (by decide +kernel)
theorem dmX13_smoothIn_411 : decode cX13_smoothIn 411 = .ok (.aload_n 0, 1) := dw_at cX13_smoothIn_k16 (p := 20) rfl (by decide +kernel)
theorem dmX13_smoothIn_412 : decode cX13_smoothIn 412 = .ok (.getfield 32, 3) := dw_at cX13_smoothIn_k16 (p := 21) rfl (by decide +kernel)
theorem dmX13_smoothIn_415 : decode cX13_smoothIn 415 = .ok (.iload 6, 2) := dw_at cX13_smoothIn_k17 (p := 0) rfl (by decide +kernel)
theorem dmX13_smoothIn_417 : decode cX13_smoothIn 417 = .ok (.iaload, 1) := dw_at cX13_smoothIn_k17 (p := 2) rfl (by decide +kernel)
theorem dmX13_smoothIn_418 : decode cX13_smoothIn 418 = .ok (.invokevirtual 97, 3) := dw_at cX13_smoothIn_k17 (p := 3) rfl (by decide +kernel)
theorem dmX13_smoothIn_421 : decode cX13_smoothIn 421 = .ok (.iinc 6 1, 3) := dw_at cX13_smoothIn_k17 (p := 6) rfl (by decide +kernel)
theorem dmX13_smoothIn_424 : decode cX13_smoothIn 424 = .ok (.goto (-28), 3) := dw_at cX13_smoothIn_k17 (p := 9) rfl (by decide +kernel)
theorem dmX13_smoothIn_427 : decode cX13_smoothIn 427 = .ok (.aload 4, 2) := dw_at cX13_smoothIn_k17 (p := 12) rfl (by decide +kernel)
theorem dmX13_smoothIn_429 : decode cX13_smoothIn 429 = .ok (.invokevirtual 94, 3) := dw_at cX13_smoothIn_k17 (p := 14) rfl (by decide +kernel)
theorem dmX13_smoothIn_432 : decode cX13_smoothIn 432 = .ok (.return_, 1) := dw_at cX13_smoothIn_k17 (p := 17) rfl (by decide +kernel)
def qm_X13_smoothIn_0 (K : Nat) (go : Nat → Int32 → Int32 → Int32 → Int32 → Int32 → Int32 → Int32 → Nat → Nat → Int32 → ow_MS → Option ow_MS) (x1 : Int32) (x2 : Int32) (x3 : Int32) (x5 : Int32) (x6 : Int32) (x7 : Int32) (x8 : Int32) (r0 : Nat) (r4 : Nat) (t0 : Int32) (z : ow_MS) : Option ow_MS :=
 cs0 (qe_X12_clear K r4 z) fun z1 => cs0 (qe_X12_signsOf K r4 r0 z1) fun z2 => rdI mX z2 (r0 + 3) (x1 + 1) fun v3 => (if v3 ≤ x3 then go 1 x1 x2 x3 0 0 0 0 r0 r4 0 z2
 else go 1 x1 x2 x3 0 0 0 0 r0 r4 1 z2)
def qm_X13_smoothIn_1 (K : Nat) (go : Nat → Int32 → Int32 → Int32 → Int32 → Int32 → Int32 → Int32 → Nat → Nat → Int32 → ow_MS → Option ow_MS) (x1 : Int32) (x2 : Int32) (x3 : Int32) (x5 : Int32) (x6 : Int32) (x7 : Int32) (x8 : Int32) (r0 : Nat) (r4 : Nat) (t0 : Int32) (z : ow_MS) : Option ow_MS :=
 go 2 x1 x2 x3 t0 0 0 0 r0 r4 0 z
def qm_X13_smoothIn_2 (K : Nat) (go : Nat → Int32 → Int32 → Int32 → Int32 → Int32 → Int32 → Int32 → Nat → Nat → Int32 → ow_MS → Option ow_MS) (x1 : Int32) (x2 : Int32) (x3 : Int32) (x5 : Int32) (x6 : Int32) (x7 : Int32) (x8 : Int32) (r0 : Nat) (r4 : Nat) (t0 : Int32) (z : ow_MS) : Option ow_MS :=
 rdF z (r0 + 2) fun v4 => (if v4 ≤ x6 then (if x5 = 0 then some z
 else go 13 x1 x2 x3 x5 (x2 + 1) 0 0 r0 r4 0 z)
 else (if x6 = x1 then rdI mX z (r0 + 3) x6 fun v7 => go 3 x1 x2 x3 x5 x6 v7 0 r0 r4 0 z
 else (if x5 = 0 then rdI mX z (r0 + 3) x6 fun v5 => (if x3 < v5 then go 10 x1 x2 x3 x5 x6 0 0 r0 r4 0 z
 else rdI mX z (r0 + 3) (x6 + 1) fun v6 => (if x3 < v6 then go 12 x1 x2 x3 x5 x6 0 0 r0 r4 0 z
 else go 10 x1 x2 x3 x5 x6 0 0 r0 r4 0 z))
 else go 10 x1 x2 x3 x5 x6 0 0 r0 r4 0 z)))
def qm_X13_smoothIn_3 (K : Nat) (go : Nat → Int32 → Int32 → Int32 → Int32 → Int32 → Int32 → Int32 → Nat → Nat → Int32 → ow_MS → Option ow_MS) (x1 : Int32) (x2 : Int32) (x3 : Int32) (x5 : Int32) (x6 : Int32) (x7 : Int32) (x8 : Int32) (r0 : Nat) (r4 : Nat) (t0 : Int32) (z : ow_MS) : Option ow_MS :=
 (if x2 ≤ x7 then (if x5 = 0 then go 5 x1 x2 x3 x5 x6 0 0 r0 r4 0 z
 else go 4 x1 x2 x3 x5 x6 (x3 + 1) 0 r0 r4 0 z)
 else rdI mX z (r0 + 4) x7 fun v8 => rdI mX z (r0 + 5) x7 fun v9 => cs0 (qe_X12_add K r4 v8 v9 z) fun z10 => go 3 x1 x2 x3 x5 x6 (x7 + 1) 0 r0 r4 0 z10)
def qm_X13_smoothIn_4 (K : Nat) (go : Nat → Int32 → Int32 → Int32 → Int32 → Int32 → Int32 → Int32 → Nat → Nat → Int32 → ow_MS → Option ow_MS) (x1 : Int32) (x2 : Int32) (x3 : Int32) (x5 : Int32) (x6 : Int32) (x7 : Int32) (x8 : Int32) (r0 : Nat) (r4 : Nat) (t0 : Int32) (z : ow_MS) : Option ow_MS :=
 rdI mX z (r0 + 3) (x6 + 1) fun v11 => (if v11 ≤ x7 then go 9 x1 x2 x3 x5 x6 x7 0 r0 r4 0 z
 else rdI mX z (r0 + 4) x7 fun v12 => rdI mX z (r0 + 5) x7 fun v13 => cs0 (qe_X12_add K r4 v12 v13 z) fun z14 => go 4 x1 x2 x3 x5 x6 (x7 + 1) 0 r0 r4 0 z14)
def qm_X13_smoothIn_5 (K : Nat) (go : Nat → Int32 → Int32 → Int32 → Int32 → Int32 → Int32 → Int32 → Nat → Nat → Int32 → ow_MS → Option ow_MS) (x1 : Int32) (x2 : Int32) (x3 : Int32) (x5 : Int32) (x6 : Int32) (x7 : Int32) (x8 : Int32) (r0 : Nat) (r4 : Nat) (t0 : Int32) (z : ow_MS) : Option ow_MS :=
 rdI mX z (r0 + 3) (x7 + 1) fun v15 => (if x3 < v15 then go 6 x1 x2 x3 x5 x6 x7 (x3 + 1) r0 r4 0 z
 else go 5 x1 x2 x3 x5 x6 (x7 + 1) 0 r0 r4 0 z)
def qm_X13_smoothIn_6 (K : Nat) (go : Nat → Int32 → Int32 → Int32 → Int32 → Int32 → Int32 → Int32 → Nat → Nat → Int32 → ow_MS → Option ow_MS) (x1 : Int32) (x2 : Int32) (x3 : Int32) (x5 : Int32) (x6 : Int32) (x7 : Int32) (x8 : Int32) (r0 : Nat) (r4 : Nat) (t0 : Int32) (z : ow_MS) : Option ow_MS :=
 rdI mX z (r0 + 3) (x7 + 1) fun v16 => (if v16 ≤ x8 then rdI mX z (r0 + 3) x7 fun v17 => go 7 x1 x2 x3 x5 x6 x7 v17 r0 r4 0 z
 else rdI mX z (r0 + 4) x8 fun v18 => rdI mX z (r0 + 5) x8 fun v19 => cs0 (qe_X12_add K r4 v18 v19 z) fun z20 => go 6 x1 x2 x3 x5 x6 x7 (x8 + 1) r0 r4 0 z20)
def qm_X13_smoothIn_7 (K : Nat) (go : Nat → Int32 → Int32 → Int32 → Int32 → Int32 → Int32 → Int32 → Nat → Nat → Int32 → ow_MS → Option ow_MS) (x1 : Int32) (x2 : Int32) (x3 : Int32) (x5 : Int32) (x6 : Int32) (x7 : Int32) (x8 : Int32) (r0 : Nat) (r4 : Nat) (t0 : Int32) (z : ow_MS) : Option ow_MS :=
 (if x3 ≤ x8 then go 8 x1 x2 x3 x5 x6 x7 (x2 + 1) r0 r4 0 z
 else rdI mX z (r0 + 4) x8 fun v21 => rdI mX z (r0 + 5) x8 fun v22 => cs0 (qe_X12_add K r4 v21 v22 z) fun z23 => go 7 x1 x2 x3 x5 x6 x7 (x8 + 1) r0 r4 0 z23)
def qm_X13_smoothIn_8 (K : Nat) (go : Nat → Int32 → Int32 → Int32 → Int32 → Int32 → Int32 → Int32 → Nat → Nat → Int32 → ow_MS → Option ow_MS) (x1 : Int32) (x2 : Int32) (x3 : Int32) (x5 : Int32) (x6 : Int32) (x7 : Int32) (x8 : Int32) (r0 : Nat) (r4 : Nat) (t0 : Int32) (z : ow_MS) : Option ow_MS :=
 rdI mX z (r0 + 3) (x6 + 1) fun v24 => (if v24 ≤ x8 then go 9 x1 x2 x3 x5 x6 x7 0 r0 r4 0 z
 else rdI mX z (r0 + 4) x8 fun v25 => rdI mX z (r0 + 5) x8 fun v26 => cs0 (qe_X12_add K r4 v25 v26 z) fun z27 => go 8 x1 x2 x3 x5 x6 x7 (x8 + 1) r0 r4 0 z27)
def qm_X13_smoothIn_9 (K : Nat) (go : Nat → Int32 → Int32 → Int32 → Int32 → Int32 → Int32 → Int32 → Nat → Nat → Int32 → ow_MS → Option ow_MS) (x1 : Int32) (x2 : Int32) (x3 : Int32) (x5 : Int32) (x6 : Int32) (x7 : Int32) (x8 : Int32) (r0 : Nat) (r4 : Nat) (t0 : Int32) (z : ow_MS) : Option ow_MS :=
 cs0 (qe_X12_end K r4 z) fun z28 => go 12 x1 x2 x3 x5 x6 0 0 r0 r4 0 z28
def qm_X13_smoothIn_10 (K : Nat) (go : Nat → Int32 → Int32 → Int32 → Int32 → Int32 → Int32 → Int32 → Nat → Nat → Int32 → ow_MS → Option ow_MS) (x1 : Int32) (x2 : Int32) (x3 : Int32) (x5 : Int32) (x6 : Int32) (x7 : Int32) (x8 : Int32) (r0 : Nat) (r4 : Nat) (t0 : Int32) (z : ow_MS) : Option ow_MS :=
 rdI mX z (r0 + 3) x6 fun v29 => go 11 x1 x2 x3 x5 x6 v29 0 r0 r4 0 z
def qm_X13_smoothIn_11 (K : Nat) (go : Nat → Int32 → Int32 → Int32 → Int32 → Int32 → Int32 → Int32 → Nat → Nat → Int32 → ow_MS → Option ow_MS) (x1 : Int32) (x2 : Int32) (x3 : Int32) (x5 : Int32) (x6 : Int32) (x7 : Int32) (x8 : Int32) (r0 : Nat) (r4 : Nat) (t0 : Int32) (z : ow_MS) : Option ow_MS :=
 rdI mX z (r0 + 3) (x6 + 1) fun v30 => (if v30 ≤ x7 then cs0 (qe_X12_end K r4 z) fun z31 => go 12 x1 x2 x3 x5 x6 0 0 r0 r4 0 z31
 else rdI mX z (r0 + 4) x7 fun v32 => rdI mX z (r0 + 5) x7 fun v33 => cs0 (qe_X12_add K r4 v32 v33 z) fun z34 => go 11 x1 x2 x3 x5 x6 (x7 + 1) 0 r0 r4 0 z34)
def qm_X13_smoothIn_12 (K : Nat) (go : Nat → Int32 → Int32 → Int32 → Int32 → Int32 → Int32 → Int32 → Nat → Nat → Int32 → ow_MS → Option ow_MS) (x1 : Int32) (x2 : Int32) (x3 : Int32) (x5 : Int32) (x6 : Int32) (x7 : Int32) (x8 : Int32) (r0 : Nat) (r4 : Nat) (t0 : Int32) (z : ow_MS) : Option ow_MS :=
 go 2 x1 x2 x3 x5 (x6 + 1) 0 0 r0 r4 0 z
def qm_X13_smoothIn_13 (K : Nat) (go : Nat → Int32 → Int32 → Int32 → Int32 → Int32 → Int32 → Int32 → Nat → Nat → Int32 → ow_MS → Option ow_MS) (x1 : Int32) (x2 : Int32) (x3 : Int32) (x5 : Int32) (x6 : Int32) (x7 : Int32) (x8 : Int32) (r0 : Nat) (r4 : Nat) (t0 : Int32) (z : ow_MS) : Option ow_MS :=
 (if x3 ≤ x6 then cs0 (qe_X12_end K r4 z) fun z35 => some z35
 else rdI mX z (r0 + 4) x6 fun v36 => rdI mX z (r0 + 5) x6 fun v37 => cs0 (qe_X12_add K r4 v36 v37 z) fun z38 => go 13 x1 x2 x3 x5 (x6 + 1) 0 0 r0 r4 0 z38)
def qb_X13_smoothIn (K : Nat) (go : Nat → Int32 → Int32 → Int32 → Int32 → Int32 → Int32 → Int32 → Nat → Nat → Int32 → ow_MS → Option ow_MS) (L : Nat) (x1 : Int32) (x2 : Int32) (x3 : Int32) (x5 : Int32) (x6 : Int32) (x7 : Int32) (x8 : Int32) (r0 : Nat) (r4 : Nat) (t0 : Int32) (z : ow_MS) : Option ow_MS := match L with
  | 0 => qm_X13_smoothIn_0 K go x1 x2 x3 x5 x6 x7 x8 r0 r4 t0 z
  | 1 => qm_X13_smoothIn_1 K go x1 x2 x3 x5 x6 x7 x8 r0 r4 t0 z
  | 2 => qm_X13_smoothIn_2 K go x1 x2 x3 x5 x6 x7 x8 r0 r4 t0 z
  | 3 => qm_X13_smoothIn_3 K go x1 x2 x3 x5 x6 x7 x8 r0 r4 t0 z
  | 4 => qm_X13_smoothIn_4 K go x1 x2 x3 x5 x6 x7 x8 r0 r4 t0 z
  | 5 => qm_X13_smoothIn_5 K go x1 x2 x3 x5 x6 x7 x8 r0 r4 t0 z
  | 6 => qm_X13_smoothIn_6 K go x1 x2 x3 x5 x6 x7 x8 r0 r4 t0 z
  | 7 => qm_X13_smoothIn_7 K go x1 x2 x3 x5 x6 x7 x8 r0 r4 t0 z
  | 8 => qm_X13_smoothIn_8 K go x1 x2 x3 x5 x6 x7 x8 r0 r4 t0 z
  | 9 => qm_X13_smoothIn_9 K go x1 x2 x3 x5 x6 x7 x8 r0 r4 t0 z
  | 10 => qm_X13_smoothIn_10 K go x1 x2 x3 x5 x6 x7 x8 r0 r4 t0 z
  | 11 => qm_X13_smoothIn_11 K go x1 x2 x3 x5 x6 x7 x8 r0 r4 t0 z
  | 12 => qm_X13_smoothIn_12 K go x1 x2 x3 x5 x6 x7 x8 r0 r4 t0 z
  | 13 => qm_X13_smoothIn_13 K go x1 x2 x3 x5 x6 x7 x8 r0 r4 t0 z
  | _ => none
def q_X13_smoothIn (K : Nat) : Nat → Nat → Int32 → Int32 → Int32 → Int32 → Int32 → Int32 → Int32 → Nat → Nat → Int32 → ow_MS → Option ow_MS
  | 0 => fun _ _ _ _ _ _ _ _ _ _ _ _ => none
  | k + 1 => qb_X13_smoothIn K (q_X13_smoothIn K k)
def qe_X13_smoothIn (K : Nat) (r0 : Nat) (x1 : Int32) (x2 : Int32) (x3 : Int32) (r4 : Nat) (z : ow_MS) : Option ow_MS := q_X13_smoothIn K K 0 x1 x2 x3 0 0 0 0 r0 r4 0 z
abbrev wm_X13_smoothIn : List Cond := .code yX13_smoothIn cX13_smoothIn 9 none :: wM
theorem cd_X13_smoothIn : yX13_smoothIn.cls ≠ "java/lang/invoke/MethodHandle" ∧ yX13_smoothIn.cls ≠ "java/lang/invoke/VarHandle" ∧ (parseMethodDescriptor yX13_smoothIn.desc).map (fun d => d.parameters.length) = some 5 := by decide +kernel
set_option maxHeartbeats 4000000 in
set_option maxRecDepth 100000 in
theorem km_X13_smoothIn (l : Launch) (D : va_G) (q : ow_Q5) (u : Nat → Nat) (hU : tw_inj mX u) (K : Nat) (r0 : Nat) (x1 : Int32) (x2 : Int32) (x3 : Int32) (r4 : Nat) (hr0 : mw_net r0) (hr4 : mw_net r4) (z z1 : ow_MS) (hq : qe_X13_smoothIn K r0 x1 x2 x3 r4 z = some z1) : Met l yX13_smoothIn wm_X13_smoothIn ({ frames := 1, cells := 0, slots := 0, locals := 22 } : Room) (va_Pc [.ref (u r0), .int x1, .int x2, .int x3, .ref (u r4)] (mw_pre D q u z)) (va_Qv (fun (_ : Unit) => True) (fun _ t => va_P D vwCl (tw mX q u z1) t.heap) (tw_A mX u)) 0 0 (tw_A mX u) := by
  refine Met.ofW (cc := cX13_smoothIn) (maxL := 9) (ret := none) (by decide) rfl ?_
  intro p e s m args below meth c s₁ B hml hv
  obtain ⟨rfl, hP, hK, hN⟩ := hv
  have hx := B.exec
  have hb := B.bytes
  have hr := B.returns
  have hts := atoms_spec (ws := wm_X13_smoothIn) B.pre
  have hT : ∀ w ∈ wM, w.before ([.ref (u r0), .int x1, .int x2, .int x3, .ref (u r4)] : List Value).toArray s = true := fun w h => hts w (List.mem_cons_of_mem _ h)
  have hown : s.vm.findClass RX13 = some m.cls := findClass_of_methodNamed B.named
  have hlocks := B.notSynchronized
  have hM : tw_M D vwCl mX q s.heap u z s.heap [] := ⟨hP, va_S.rf⟩
  have hl := lv_entry ([.ref (u r0), .int x1, .int x2, .int x3, .ref (u r4)]) (n := 9) (Nat.le_of_ble_eq_true rfl)
  rw [lg_entry_eq]
  generalize (lg_sl ([.ref (u r0), .int x1, .int x2, .int x3, .ref (u r4)]) ++ List.replicate (9 - (lg_sl ([.ref (u r0), .int x1, .int x2, .int x3, .ref (u r4)])).length) Slot.unset).toArray = ls at hl ⊢
  have hl : lv_has ls 9 [(0, .ref (u r0)), (1, .int x1), (2, .int x2), (3, .int x3), (4, .ref (u r4))] := hl
  refine ow_named (fun QQ hQQ => ?_)
  generalize ([.ref (u r0), .int x1, .int x2, .int x3, .ref (u r4)] : List Value).toArray = args at hts hT hQQ ⊢
  have key : ∀ k : Nat, (∀ (x1 : Int32) (x2 : Int32) (x3 : Int32) (x5 : Int32) (x6 : Int32) (x7 : Int32) (x8 : Int32) (r0 : Nat) (r4 : Nat) (t0 : Int32) (z : ow_MS) (H : Heap) (locs : List Loc) (ls : Array Slot), mw_net r0 → mw_net r4 → tw_M D vwCl mX q s.heap u z H locs → lv_has ls 9 [(0, .ref (u r0)), (1, .int x1), (2, .int x2), (3, .int x3), (4, .ref (u r4))] → q_X13_smoothIn K k 0 x1 x2 x3 x5 x6 x7 x8 r0 r4 t0 z = some z1 → W p l e ({ frames := 1, cells := 0, slots := 0, locals := 22 } : Room) s m args below meth c H locs 0 0 QQ (F0 m 0 ls [])) ∧ (∀ (x1 : Int32) (x2 : Int32) (x3 : Int32) (x5 : Int32) (x6 : Int32) (x7 : Int32) (x8 : Int32) (r0 : Nat) (r4 : Nat) (t0 : Int32) (z : ow_MS) (H : Heap) (locs : List Loc) (ls : Array Slot), mw_net r0 → mw_net r4 → tw_M D vwCl mX q s.heap u z H locs → lv_has ls 9 [(0, .ref (u r0)), (1, .int x1), (2, .int x2), (3, .int x3), (4, .ref (u r4))] → q_X13_smoothIn K k 1 x1 x2 x3 x5 x6 x7 x8 r0 r4 t0 z = some z1 → W p l e ({ frames := 1, cells := 0, slots := 0, locals := 22 } : Room) s m args below meth c H locs 0 0 QQ (F0 m 28 ls [.int t0])) ∧ (∀ (x1 : Int32) (x2 : Int32) (x3 : Int32) (x5 : Int32) (x6 : Int32) (x7 : Int32) (x8 : Int32) (r0 : Nat) (r4 : Nat) (t0 : Int32) (z : ow_MS) (H : Heap) (locs : List Loc) (ls : Array Slot), mw_net r0 → mw_net r4 → tw_M D vwCl mX q s.heap u z H locs → lv_has ls 9 [(0, .ref (u r0)), (1, .int x1), (2, .int x2), (3, .int x3), (4, .ref (u r4)), (5, .int x5), (6, .int x6)] → q_X13_smoothIn K k 2 x1 x2 x3 x5 x6 x7 x8 r0 r4 t0 z = some z1 → W p l e ({ frames := 1, cells := 0, slots := 0, locals := 22 } : Room) s m args below meth c H locs 0 0 QQ (F0 m 33 ls [])) ∧ (∀ (x1 : Int32) (x2 : Int32) (x3 : Int32) (x5 : Int32) (x6 : Int32) (x7 : Int32) (x8 : Int32) (r0 : Nat) (r4 : Nat) (t0 : Int32) (z : ow_MS) (H : Heap) (locs : List Loc) (ls : Array Slot), mw_net r0 → mw_net r4 → tw_M D vwCl mX q s.heap u z H locs → lv_has ls 9 [(0, .ref (u r0)), (1, .int x1), (2, .int x2), (3, .int x3), (4, .ref (u r4)), (5, .int x5), (6, .int x6), (7, .int x7)] → q_X13_smoothIn K k 3 x1 x2 x3 x5 x6 x7 x8 r0 r4 t0 z = some z1 → W p l e ({ frames := 1, cells := 0, slots := 0, locals := 22 } : Room) s m args below meth c H locs 0 0 QQ (F0 m 57 ls [])) ∧ (∀ (x1 : Int32) (x2 : Int32) (x3 : Int32) (x5 : Int32) (x6 : Int32) (x7 : Int32) (x8 : Int32) (r0 : Nat) (r4 : Nat) (t0 : Int32) (z : ow_MS) (H : Heap) (locs : List Loc) (ls : Array Slot), mw_net r0 → mw_net r4 → tw_M D vwCl mX q s.heap u z H locs → lv_has ls 9 [(0, .ref (u r0)), (1, .int x1), (2, .int x2), (3, .int x3), (4, .ref (u r4)), (5, .int x5), (6, .int x6), (7, .int x7)] → q_X13_smoothIn K k 4 x1 x2 x3 x5 x6 x7 x8 r0 r4 t0 z = some z1 → W p l e ({ frames := 1, cells := 0, slots := 0, locals := 22 } : Room) s m args below meth c H locs 0 0 QQ (F0 m 98 ls [])) ∧ (∀ (x1 : Int32) (x2 : Int32) (x3 : Int32) (x5 : Int32) (x6 : Int32) (x7 : Int32) (x8 : Int32) (r0 : Nat) (r4 : Nat) (t0 : Int32) (z : ow_MS) (H : Heap) (locs : List Loc) (ls : Array Slot), mw_net r0 → mw_net r4 → tw_M D vwCl mX q s.heap u z H locs → lv_has ls 9 [(0, .ref (u r0)), (1, .int x1), (2, .int x2), (3, .int x3), (4, .ref (u r4)), (5, .int x5), (6, .int x6), (7, .int x7)] → q_X13_smoothIn K k 5 x1 x2 x3 x5 x6 x7 x8 r0 r4 t0 z = some z1 → W p l e ({ frames := 1, cells := 0, slots := 0, locals := 22 } : Room) s m args below meth c H locs 0 0 QQ (F0 m 143 ls [])) ∧ (∀ (x1 : Int32) (x2 : Int32) (x3 : Int32) (x5 : Int32) (x6 : Int32) (x7 : Int32) (x8 : Int32) (r0 : Nat) (r4 : Nat) (t0 : Int32) (z : ow_MS) (H : Heap) (locs : List Loc) (ls : Array Slot), mw_net r0 → mw_net r4 → tw_M D vwCl mX q s.heap u z H locs → lv_has ls 9 [(0, .ref (u r0)), (1, .int x1), (2, .int x2), (3, .int x3), (4, .ref (u r4)), (5, .int x5), (6, .int x6), (7, .int x7), (8, .int x8)] → q_X13_smoothIn K k 6 x1 x2 x3 x5 x6 x7 x8 r0 r4 t0 z = some z1 → W p l e ({ frames := 1, cells := 0, slots := 0, locals := 22 } : Room) s m args below meth c H locs 0 0 QQ (F0 m 167 ls [])) ∧ (∀ (x1 : Int32) (x2 : Int32) (x3 : Int32) (x5 : Int32) (x6 : Int32) (x7 : Int32) (x8 : Int32) (r0 : Nat) (r4 : Nat) (t0 : Int32) (z : ow_MS) (H : Heap) (locs : List Loc) (ls : Array Slot), mw_net r0 → mw_net r4 → tw_M D vwCl mX q s.heap u z H locs → lv_has ls 9 [(0, .ref (u r0)), (1, .int x1), (2, .int x2), (3, .int x3), (4, .ref (u r4)), (5, .int x5), (6, .int x6), (7, .int x7), (8, .int x8)] → q_X13_smoothIn K k 7 x1 x2 x3 x5 x6 x7 x8 r0 r4 t0 z = some z1 → W p l e ({ frames := 1, cells := 0, slots := 0, locals := 22 } : Room) s m args below meth c H locs 0 0 QQ (F0 m 215 ls [])) ∧ (∀ (x1 : Int32) (x2 : Int32) (x3 : Int32) (x5 : Int32) (x6 : Int32) (x7 : Int32) (x8 : Int32) (r0 : Nat) (r4 : Nat) (t0 : Int32) (z : ow_MS) (H : Heap) (locs : List Loc) (ls : Array Slot), mw_net r0 → mw_net r4 → tw_M D vwCl mX q s.heap u z H locs → lv_has ls 9 [(0, .ref (u r0)), (1, .int x1), (2, .int x2), (3, .int x3), (4, .ref (u r4)), (5, .int x5), (6, .int x6), (7, .int x7), (8, .int x8)] → q_X13_smoothIn K k 8 x1 x2 x3 x5 x6 x7 x8 r0 r4 t0 z = some z1 → W p l e ({ frames := 1, cells := 0, slots := 0, locals := 22 } : Room) s m args below meth c H locs 0 0 QQ (F0 m 251 ls [])) ∧ (∀ (x1 : Int32) (x2 : Int32) (x3 : Int32) (x5 : Int32) (x6 : Int32) (x7 : Int32) (x8 : Int32) (r0 : Nat) (r4 : Nat) (t0 : Int32) (z : ow_MS) (H : Heap) (locs : List Loc) (ls : Array Slot), mw_net r0 → mw_net r4 → tw_M D vwCl mX q s.heap u z H locs → lv_has ls 9 [(0, .ref (u r0)), (1, .int x1), (2, .int x2), (3, .int x3), (4, .ref (u r4)), (5, .int x5), (6, .int x6), (7, .int x7)] → q_X13_smoothIn K k 9 x1 x2 x3 x5 x6 x7 x8 r0 r4 t0 z = some z1 → W p l e ({ frames := 1, cells := 0, slots := 0, locals := 22 } : Room) s m args below meth c H locs 0 0 QQ (F0 m 290 ls [])) ∧ (∀ (x1 : Int32) (x2 : Int32) (x3 : Int32) (x5 : Int32) (x6 : Int32) (x7 : Int32) (x8 : Int32) (r0 : Nat) (r4 : Nat) (t0 : Int32) (z : ow_MS) (H : Heap) (locs : List Loc) (ls : Array Slot), mw_net r0 → mw_net r4 → tw_M D vwCl mX q s.heap u z H locs → lv_has ls 9 [(0, .ref (u r0)), (1, .int x1), (2, .int x2), (3, .int x3), (4, .ref (u r4)), (5, .int x5), (6, .int x6)] → q_X13_smoothIn K k 10 x1 x2 x3 x5 x6 x7 x8 r0 r4 t0 z = some z1 → W p l e ({ frames := 1, cells := 0, slots := 0, locals := 22 } : Room) s m args below meth c H locs 0 0 QQ (F0 m 327 ls [])) ∧ (∀ (x1 : Int32) (x2 : Int32) (x3 : Int32) (x5 : Int32) (x6 : Int32) (x7 : Int32) (x8 : Int32) (r0 : Nat) (r4 : Nat) (t0 : Int32) (z : ow_MS) (H : Heap) (locs : List Loc) (ls : Array Slot), mw_net r0 → mw_net r4 → tw_M D vwCl mX q s.heap u z H locs → lv_has ls 9 [(0, .ref (u r0)), (1, .int x1), (2, .int x2), (3, .int x3), (4, .ref (u r4)), (5, .int x5), (6, .int x6), (7, .int x7)] → q_X13_smoothIn K k 11 x1 x2 x3 x5 x6 x7 x8 r0 r4 t0 z = some z1 → W p l e ({ frames := 1, cells := 0, slots := 0, locals := 22 } : Room) s m args below meth c H locs 0 0 QQ (F0 m 336 ls [])) ∧ (∀ (x1 : Int32) (x2 : Int32) (x3 : Int32) (x5 : Int32) (x6 : Int32) (x7 : Int32) (x8 : Int32) (r0 : Nat) (r4 : Nat) (t0 : Int32) (z : ow_MS) (H : Heap) (locs : List Loc) (ls : Array Slot), mw_net r0 → mw_net r4 → tw_M D vwCl mX q s.heap u z H locs → lv_has ls 9 [(0, .ref (u r0)), (1, .int x1), (2, .int x2), (3, .int x3), (4, .ref (u r4)), (5, .int x5), (6, .int x6)] → q_X13_smoothIn K k 12 x1 x2 x3 x5 x6 x7 x8 r0 r4 t0 z = some z1 → W p l e ({ frames := 1, cells := 0, slots := 0, locals := 22 } : Room) s m args below meth c H locs 0 0 QQ (F0 m 380 ls [])) ∧ (∀ (x1 : Int32) (x2 : Int32) (x3 : Int32) (x5 : Int32) (x6 : Int32) (x7 : Int32) (x8 : Int32) (r0 : Nat) (r4 : Nat) (t0 : Int32) (z : ow_MS) (H : Heap) (locs : List Loc) (ls : Array Slot), mw_net r0 → mw_net r4 → tw_M D vwCl mX q s.heap u z H locs → lv_has ls 9 [(0, .ref (u r0)), (1, .int x1), (2, .int x2), (3, .int x3), (4, .ref (u r4)), (5, .int x5), (6, .int x6)] → q_X13_smoothIn K k 13 x1 x2 x3 x5 x6 x7 x8 r0 r4 t0 z = some z1 → W p l e ({ frames := 1, cells := 0, slots := 0, locals := 22 } : Room) s m args below meth c H locs 0 0 QQ (F0 m 396 ls [])) := by
    intro k
    induction k with
    | zero => exact ⟨fun _ _ _ _ _ _ _ _ _ _ _ _ _ _ _ _ _ _ hq => tw_no hq, fun _ _ _ _ _ _ _ _ _ _ _ _ _ _ _ _ _ _ hq => tw_no hq, fun _ _ _ _ _ _ _ _ _ _ _ _ _ _ _ _ _ _ hq => tw_no hq, fun _ _ _ _ _ _ _ _ _ _ _ _ _ _ _ _ _ _ hq => tw_no hq, fun _ _ _ _ _ _ _ _ _ _ _ _ _ _ _ _ _ _ hq => tw_no hq, fun _ _ _ _ _ _ _ _ _ _ _ _ _ _ _ _ _ _ hq => tw_no hq, fun _ _ _ _ _ _ _ _ _ _ _ _ _ _ _ _ _ _ hq => tw_no hq, fun _ _ _ _ _ _ _ _ _ _ _ _ _ _ _ _ _ _ hq => tw_no hq, fun _ _ _ _ _ _ _ _ _ _ _ _ _ _ _ _ _ _ hq => tw_no hq, fun _ _ _ _ _ _ _ _ _ _ _ _ _ _ _ _ _ _ hq => tw_no hq, fun _ _ _ _ _ _ _ _ _ _ _ _ _ _ _ _ _ _ hq => tw_no hq, fun _ _ _ _ _ _ _ _ _ _ _ _ _ _ _ _ _ _ hq => tw_no hq, fun _ _ _ _ _ _ _ _ _ _ _ _ _ _ _ _ _ _ hq => tw_no hq, fun _ _ _ _ _ _ _ _ _ _ _ _ _ _ _ _ _ _ hq => tw_no hq⟩
    | succ k ih =>
      obtain ⟨ih_0, ih_1, ih_2, ih_3, ih_4, ih_5, ih_6, ih_7, ih_8, ih_9, ih_10, ih_11, ih_12, ih_13⟩ := ih
      refine ⟨?_, ?_, ?_, ?_, ?_, ?_, ?_, ?_, ?_, ?_, ?_, ?_, ?_, ?_⟩
      · intro x1 x2 x3 x5 x6 x7 x8 r0 r4 t0 z H locs ls hr0 hr4 hM hl hq
        have hq : qm_X13_smoothIn_0 K (q_X13_smoothIn K k) x1 x2 x3 x5 x6 x7 x8 r0 r4 t0 z = some z1 := hq
        unfold qm_X13_smoothIn_0 at hq
        refine lv_aload hx hb dmX13_smoothIn_0 (lv_at hl 4 rfl) ?_
        obtain ⟨z1, hcq, hq⟩ := tw_cl0 hq
        refine tw_calv hM (va_runV (As := []) (rest := []) ⟨hx, hb, hml, hown, hts⟩ (km_X12_clear l D q u hU K r4 hr4 z z1 hcq) (cwV 0 hts (tw_gV wM_good wq_85 wq_11 wq_12 wq_13 wq_3) rfl rfl rfl cd_X12_clear ⟨(Nat.le_of_ble_eq_true rfl), (Nat.le_of_ble_eq_true rfl)⟩) (mw_preV hK hN hM (mo_n hr4) rfl) rfl rfl hl.1 rfl (lv_room (Nat.le_of_ble_eq_true rfl)) dmX13_smoothIn_2 ⟨(Nat.le_of_ble_eq_true rfl), (Nat.le_of_ble_eq_true rfl)⟩) (fun H locs hM => ?_)
        refine lv_aload hx hb dmX13_smoothIn_5 (lv_at hl 4 rfl) ?_
        refine lv_aload_n hx hb dmX13_smoothIn_7 rfl (lv_at hl 0 rfl) ?_
        obtain ⟨z2, hcq, hq⟩ := tw_cl0 hq
        refine tw_calv hM (va_runV (As := [.ref (u r0)]) (rest := []) ⟨hx, hb, hml, hown, hts⟩ (km_X12_signsOf l D q u hU K r4 r0 hr4 hr0 z1 z2 hcq) (cwV 1 hts (tw_gV wM_good wq_153 wq_21 wq_22 wq_13 wq_9) rfl rfl rfl cd_X12_signsOf ⟨(Nat.le_of_ble_eq_true rfl), (Nat.le_of_ble_eq_true rfl)⟩) (mw_preV hK hN hM (mo_n hr4) rfl) rfl rfl hl.1 rfl (lv_room (Nat.le_of_ble_eq_true rfl)) dmX13_smoothIn_8 ⟨(Nat.le_of_ble_eq_true rfl), (Nat.le_of_ble_eq_true rfl)⟩) (fun H locs hM => ?_)
        refine lv_iload_n hx hb dmX13_smoothIn_11 rfl (lv_at hl 3 rfl) ?_
        refine lv_aload_n hx hb dmX13_smoothIn_12 rfl (lv_at hl 0 rfl) ?_
        refine mg13_452 hx hb hT hown hK hM hN hr0 dmX13_smoothIn_13 ?_
        refine lv_iload_n hx hb dmX13_smoothIn_16 rfl (lv_at hl 1 rfl) ?_
        refine lv_iconst (v := 1) hx hb dmX13_smoothIn_17 (by decide) ?_
        refine lv_iadd hx hb dmX13_smoothIn_18 ?_
        refine tw_iald mX_ok hx hb hK hM (mrn_3 hr0) hq dmX13_smoothIn_19 (fun v3 hq => ?_)
        refine lv_icmp_ge (tgt := 27) hx hb dmX13_smoothIn_20 (by decide) (fun hc => ?_) (fun hc => ?_)
        · have hq := tw_it hq hc
          refine lv_iconst (v := 0) hx hb dmX13_smoothIn_27 (by decide) ?_
          exact ih_1 x1 x2 x3 0 0 0 0 r0 r4 0 z2 H locs ls hr0 hr4 hM (lv_sub hl [0, 1, 2, 3, 4] rfl) hq
        · have hq := tw_if hq hc
          refine lv_iconst (v := 1) hx hb dmX13_smoothIn_23 (by decide) ?_
          refine lv_goto (tgt := 28) hx hb dmX13_smoothIn_24 (by decide) ?_
          exact ih_1 x1 x2 x3 0 0 0 0 r0 r4 1 z2 H locs ls hr0 hr4 hM (lv_sub hl [0, 1, 2, 3, 4] rfl) hq
      · intro x1 x2 x3 x5 x6 x7 x8 r0 r4 t0 z H locs ls hr0 hr4 hM hl hq
        have hq : qm_X13_smoothIn_1 K (q_X13_smoothIn K k) x1 x2 x3 x5 x6 x7 x8 r0 r4 t0 z = some z1 := hq
        unfold qm_X13_smoothIn_1 at hq
        refine lv_istore (lv' := [(5, .int t0), (0, .ref (u r0)), (1, .int x1), (2, .int x2), (3, .int x3), (4, .ref (u r4))]) hx hb dmX13_smoothIn_28 hl (by decide) rfl (fun ls hl => ?_)
        refine lv_iconst (v := 0) hx hb dmX13_smoothIn_30 (by decide) ?_
        refine lv_istore (lv' := [(6, .int 0), (5, .int t0), (0, .ref (u r0)), (1, .int x1), (2, .int x2), (3, .int x3), (4, .ref (u r4))]) hx hb dmX13_smoothIn_31 hl (by decide) rfl (fun ls hl => ?_)
        exact ih_2 x1 x2 x3 t0 0 0 0 r0 r4 0 z H locs ls hr0 hr4 hM (lv_sub hl [2, 3, 4, 5, 6, 1, 0] rfl) hq
      · intro x1 x2 x3 x5 x6 x7 x8 r0 r4 t0 z H locs ls hr0 hr4 hM hl hq
        have hq : qm_X13_smoothIn_2 K (q_X13_smoothIn K k) x1 x2 x3 x5 x6 x7 x8 r0 r4 t0 z = some z1 := hq
        unfold qm_X13_smoothIn_2 at hq
        refine lv_iload hx hb dmX13_smoothIn_33 (lv_at hl 6 rfl) ?_
        refine lv_aload_n hx hb dmX13_smoothIn_35 rfl (lv_at hl 0 rfl) ?_
        refine mg13_407 hx hb hT hown hK hM hN hr0 hq dmX13_smoothIn_36 (fun v4 hq => ?_)
        refine lv_icmp_ge (tgt := 386) hx hb dmX13_smoothIn_39 (by decide) (fun hc => ?_) (fun hc => ?_)
        · have hq := tw_it hq hc
          refine lv_iload hx hb dmX13_smoothIn_386 (lv_at hl 5 rfl) ?_
          refine lv_if_eq (tgt := 432) hx hb dmX13_smoothIn_388 (by decide) (fun hc => ?_) (fun hc => ?_)
          · have hq := tw_it hq hc
            exact mw_vret hx hb hr hlocks hM hq hQQ dmX13_smoothIn_432
          · have hq := tw_if hq hc
            refine lv_iload_n hx hb dmX13_smoothIn_391 rfl (lv_at hl 2 rfl) ?_
            refine lv_iconst (v := 1) hx hb dmX13_smoothIn_392 (by decide) ?_
            refine lv_iadd hx hb dmX13_smoothIn_393 ?_
            refine lv_istore (lv' := [(6, .int (x2 + 1)), (0, .ref (u r0)), (1, .int x1), (2, .int x2), (3, .int x3), (4, .ref (u r4)), (5, .int x5)]) hx hb dmX13_smoothIn_394 hl (by decide) rfl (fun ls hl => ?_)
            exact ih_13 x1 x2 x3 x5 (x2 + 1) 0 0 r0 r4 0 z H locs ls hr0 hr4 hM (lv_sub hl [1, 2, 3, 4, 5, 6, 0] rfl) hq
        · have hq := tw_if hq hc
          refine lv_iload hx hb dmX13_smoothIn_42 (lv_at hl 6 rfl) ?_
          refine lv_iload_n hx hb dmX13_smoothIn_44 rfl (lv_at hl 1 rfl) ?_
          refine lv_icmp_ne (tgt := 298) hx hb dmX13_smoothIn_45 (by decide) (fun hc => ?_) (fun hc => ?_)
          · have hq := tw_if hq hc
            refine lv_iload hx hb dmX13_smoothIn_298 (lv_at hl 5 rfl) ?_
            refine lv_if_ne (tgt := 327) hx hb dmX13_smoothIn_300 (by decide) (fun hc => ?_) (fun hc => ?_)
            · have hq := tw_if hq hc
              exact ih_10 x1 x2 x3 x5 x6 0 0 r0 r4 0 z H locs ls hr0 hr4 hM (lv_sub hl [0, 1, 2, 3, 4, 5, 6] rfl) hq
            · have hq := tw_it hq hc
              refine lv_iload_n hx hb dmX13_smoothIn_303 rfl (lv_at hl 3 rfl) ?_
              refine lv_aload_n hx hb dmX13_smoothIn_304 rfl (lv_at hl 0 rfl) ?_
              refine mg13_452 hx hb hT hown hK hM hN hr0 dmX13_smoothIn_305 ?_
              refine lv_iload hx hb dmX13_smoothIn_308 (lv_at hl 6 rfl) ?_
              refine tw_iald mX_ok hx hb hK hM (mrn_3 hr0) hq dmX13_smoothIn_310 (fun v5 hq => ?_)
              refine lv_icmp_lt (tgt := 327) hx hb dmX13_smoothIn_311 (by decide) (fun hc => ?_) (fun hc => ?_)
              · have hq := tw_it hq hc
                exact ih_10 x1 x2 x3 x5 x6 0 0 r0 r4 0 z H locs ls hr0 hr4 hM (lv_sub hl [0, 1, 2, 3, 4, 5, 6] rfl) hq
              · have hq := tw_if hq hc
                refine lv_iload_n hx hb dmX13_smoothIn_314 rfl (lv_at hl 3 rfl) ?_
                refine lv_aload_n hx hb dmX13_smoothIn_315 rfl (lv_at hl 0 rfl) ?_
                refine mg13_452 hx hb hT hown hK hM hN hr0 dmX13_smoothIn_316 ?_
                refine lv_iload hx hb dmX13_smoothIn_319 (lv_at hl 6 rfl) ?_
                refine lv_iconst (v := 1) hx hb dmX13_smoothIn_321 (by decide) ?_
                refine lv_iadd hx hb dmX13_smoothIn_322 ?_
                refine tw_iald mX_ok hx hb hK hM (mrn_3 hr0) hq dmX13_smoothIn_323 (fun v6 hq => ?_)
                refine lv_icmp_lt (tgt := 380) hx hb dmX13_smoothIn_324 (by decide) (fun hc => ?_) (fun hc => ?_)
                · have hq := tw_it hq hc
                  exact ih_12 x1 x2 x3 x5 x6 0 0 r0 r4 0 z H locs ls hr0 hr4 hM (lv_sub hl [0, 1, 2, 3, 4, 5, 6] rfl) hq
                · have hq := tw_if hq hc
                  exact ih_10 x1 x2 x3 x5 x6 0 0 r0 r4 0 z H locs ls hr0 hr4 hM (lv_sub hl [0, 1, 2, 3, 4, 5, 6] rfl) hq
          · have hq := tw_it hq hc
            refine lv_aload_n hx hb dmX13_smoothIn_48 rfl (lv_at hl 0 rfl) ?_
            refine mg13_452 hx hb hT hown hK hM hN hr0 dmX13_smoothIn_49 ?_
            refine lv_iload hx hb dmX13_smoothIn_52 (lv_at hl 6 rfl) ?_
            refine tw_iald mX_ok hx hb hK hM (mrn_3 hr0) hq dmX13_smoothIn_54 (fun v7 hq => ?_)
            refine lv_istore (lv' := [(7, .int v7), (0, .ref (u r0)), (1, .int x1), (2, .int x2), (3, .int x3), (4, .ref (u r4)), (5, .int x5), (6, .int x6)]) hx hb dmX13_smoothIn_55 hl (by decide) rfl (fun ls hl => ?_)
            exact ih_3 x1 x2 x3 x5 x6 v7 0 r0 r4 0 z H locs ls hr0 hr4 hM (lv_sub hl [1, 2, 3, 4, 5, 6, 7, 0] rfl) hq
      · intro x1 x2 x3 x5 x6 x7 x8 r0 r4 t0 z H locs ls hr0 hr4 hM hl hq
        have hq : qm_X13_smoothIn_3 K (q_X13_smoothIn K k) x1 x2 x3 x5 x6 x7 x8 r0 r4 t0 z = some z1 := hq
        unfold qm_X13_smoothIn_3 at hq
        refine lv_iload hx hb dmX13_smoothIn_57 (lv_at hl 7 rfl) ?_
        refine lv_iload_n hx hb dmX13_smoothIn_59 rfl (lv_at hl 2 rfl) ?_
        refine lv_icmp_ge (tgt := 88) hx hb dmX13_smoothIn_60 (by decide) (fun hc => ?_) (fun hc => ?_)
        · have hq := tw_it hq hc
          refine lv_iload hx hb dmX13_smoothIn_88 (lv_at hl 5 rfl) ?_
          refine lv_if_eq (tgt := 140) hx hb dmX13_smoothIn_90 (by decide) (fun hc => ?_) (fun hc => ?_)
          · have hq := tw_it hq hc
            refine lv_iconst (v := 0) hx hb dmX13_smoothIn_140 (by decide) ?_
            refine lv_istore (lv' := [(7, .int 0), (0, .ref (u r0)), (1, .int x1), (2, .int x2), (3, .int x3), (4, .ref (u r4)), (5, .int x5), (6, .int x6)]) hx hb dmX13_smoothIn_141 hl (by decide) rfl (fun ls hl => ?_)
            exact ih_5 x1 x2 x3 x5 x6 0 0 r0 r4 0 z H locs ls hr0 hr4 hM (lv_sub hl [1, 2, 3, 4, 5, 6, 7, 0] rfl) hq
          · have hq := tw_if hq hc
            refine lv_iload_n hx hb dmX13_smoothIn_93 rfl (lv_at hl 3 rfl) ?_
            refine lv_iconst (v := 1) hx hb dmX13_smoothIn_94 (by decide) ?_
            refine lv_iadd hx hb dmX13_smoothIn_95 ?_
            refine lv_istore (lv' := [(7, .int (x3 + 1)), (0, .ref (u r0)), (1, .int x1), (2, .int x2), (3, .int x3), (4, .ref (u r4)), (5, .int x5), (6, .int x6)]) hx hb dmX13_smoothIn_96 hl (by decide) rfl (fun ls hl => ?_)
            exact ih_4 x1 x2 x3 x5 x6 (x3 + 1) 0 r0 r4 0 z H locs ls hr0 hr4 hM (lv_sub hl [1, 2, 3, 4, 5, 6, 7, 0] rfl) hq
        · have hq := tw_if hq hc
          refine lv_aload hx hb dmX13_smoothIn_63 (lv_at hl 4 rfl) ?_
          refine lv_aload_n hx hb dmX13_smoothIn_65 rfl (lv_at hl 0 rfl) ?_
          refine mg13_23 hx hb hT hown hK hM hN hr0 dmX13_smoothIn_66 ?_
          refine lv_iload hx hb dmX13_smoothIn_69 (lv_at hl 7 rfl) ?_
          refine tw_iald mX_ok hx hb hK hM (mrn_4 hr0) hq dmX13_smoothIn_71 (fun v8 hq => ?_)
          refine lv_aload_n hx hb dmX13_smoothIn_72 rfl (lv_at hl 0 rfl) ?_
          refine mg13_32 hx hb hT hown hK hM hN hr0 dmX13_smoothIn_73 ?_
          refine lv_iload hx hb dmX13_smoothIn_76 (lv_at hl 7 rfl) ?_
          refine tw_iald mX_ok hx hb hK hM (mrn_5 hr0) hq dmX13_smoothIn_78 (fun v9 hq => ?_)
          obtain ⟨z10, hcq, hq⟩ := tw_cl0 hq
          refine tw_calv hM (va_runV (As := [.int v8, .int v9]) (rest := []) ⟨hx, hb, hml, hown, hts⟩ (km_X12_add l D q u hU K r4 v8 v9 hr4 z z10 hcq) (cwV 2 hts (tw_gV wM_good wq_87 wq_15 wq_16 wq_13 wq_6) rfl rfl rfl cd_X12_add ⟨(Nat.le_of_ble_eq_true rfl), (Nat.le_of_ble_eq_true rfl)⟩) (mw_preV hK hN hM (mo_n hr4) rfl) rfl rfl hl.1 rfl (lv_room (Nat.le_of_ble_eq_true rfl)) dmX13_smoothIn_79 ⟨(Nat.le_of_ble_eq_true rfl), (Nat.le_of_ble_eq_true rfl)⟩) (fun H locs hM => ?_)
          refine lv_iinc (v := (x7 + 1)) (lv' := [(7, .int (x7 + 1)), (0, .ref (u r0)), (1, .int x1), (2, .int x2), (3, .int x3), (4, .ref (u r4)), (5, .int x5), (6, .int x6)]) hx hb dmX13_smoothIn_82 hl (k := 7) rfl rfl (by decide) rfl (fun ls hl => ?_)
          refine lv_goto (tgt := 57) hx hb dmX13_smoothIn_85 (by decide) ?_
          exact ih_3 x1 x2 x3 x5 x6 (x7 + 1) 0 r0 r4 0 z10 H locs ls hr0 hr4 hM (lv_sub hl [1, 2, 3, 4, 5, 6, 7, 0] rfl) hq
      · intro x1 x2 x3 x5 x6 x7 x8 r0 r4 t0 z H locs ls hr0 hr4 hM hl hq
        have hq : qm_X13_smoothIn_4 K (q_X13_smoothIn K k) x1 x2 x3 x5 x6 x7 x8 r0 r4 t0 z = some z1 := hq
        unfold qm_X13_smoothIn_4 at hq
        refine lv_iload hx hb dmX13_smoothIn_98 (lv_at hl 7 rfl) ?_
        refine lv_aload_n hx hb dmX13_smoothIn_100 rfl (lv_at hl 0 rfl) ?_
        refine mg13_452 hx hb hT hown hK hM hN hr0 dmX13_smoothIn_101 ?_
        refine lv_iload hx hb dmX13_smoothIn_104 (lv_at hl 6 rfl) ?_
        refine lv_iconst (v := 1) hx hb dmX13_smoothIn_106 (by decide) ?_
        refine lv_iadd hx hb dmX13_smoothIn_107 ?_
        refine tw_iald mX_ok hx hb hK hM (mrn_3 hr0) hq dmX13_smoothIn_108 (fun v11 hq => ?_)
        refine lv_icmp_ge (tgt := 137) hx hb dmX13_smoothIn_109 (by decide) (fun hc => ?_) (fun hc => ?_)
        · have hq := tw_it hq hc
          refine lv_goto (tgt := 290) hx hb dmX13_smoothIn_137 (by decide) ?_
          exact ih_9 x1 x2 x3 x5 x6 x7 0 r0 r4 0 z H locs ls hr0 hr4 hM (lv_sub hl [0, 1, 2, 3, 4, 5, 6, 7] rfl) hq
        · have hq := tw_if hq hc
          refine lv_aload hx hb dmX13_smoothIn_112 (lv_at hl 4 rfl) ?_
          refine lv_aload_n hx hb dmX13_smoothIn_114 rfl (lv_at hl 0 rfl) ?_
          refine mg13_23 hx hb hT hown hK hM hN hr0 dmX13_smoothIn_115 ?_
          refine lv_iload hx hb dmX13_smoothIn_118 (lv_at hl 7 rfl) ?_
          refine tw_iald mX_ok hx hb hK hM (mrn_4 hr0) hq dmX13_smoothIn_120 (fun v12 hq => ?_)
          refine lv_aload_n hx hb dmX13_smoothIn_121 rfl (lv_at hl 0 rfl) ?_
          refine mg13_32 hx hb hT hown hK hM hN hr0 dmX13_smoothIn_122 ?_
          refine lv_iload hx hb dmX13_smoothIn_125 (lv_at hl 7 rfl) ?_
          refine tw_iald mX_ok hx hb hK hM (mrn_5 hr0) hq dmX13_smoothIn_127 (fun v13 hq => ?_)
          obtain ⟨z14, hcq, hq⟩ := tw_cl0 hq
          refine tw_calv hM (va_runV (As := [.int v12, .int v13]) (rest := []) ⟨hx, hb, hml, hown, hts⟩ (km_X12_add l D q u hU K r4 v12 v13 hr4 z z14 hcq) (cwV 2 hts (tw_gV wM_good wq_87 wq_15 wq_16 wq_13 wq_6) rfl rfl rfl cd_X12_add ⟨(Nat.le_of_ble_eq_true rfl), (Nat.le_of_ble_eq_true rfl)⟩) (mw_preV hK hN hM (mo_n hr4) rfl) rfl rfl hl.1 rfl (lv_room (Nat.le_of_ble_eq_true rfl)) dmX13_smoothIn_128 ⟨(Nat.le_of_ble_eq_true rfl), (Nat.le_of_ble_eq_true rfl)⟩) (fun H locs hM => ?_)
          refine lv_iinc (v := (x7 + 1)) (lv' := [(7, .int (x7 + 1)), (0, .ref (u r0)), (1, .int x1), (2, .int x2), (3, .int x3), (4, .ref (u r4)), (5, .int x5), (6, .int x6)]) hx hb dmX13_smoothIn_131 hl (k := 7) rfl rfl (by decide) rfl (fun ls hl => ?_)
          refine lv_goto (tgt := 98) hx hb dmX13_smoothIn_134 (by decide) ?_
          exact ih_4 x1 x2 x3 x5 x6 (x7 + 1) 0 r0 r4 0 z14 H locs ls hr0 hr4 hM (lv_sub hl [1, 2, 3, 4, 5, 6, 7, 0] rfl) hq
      · intro x1 x2 x3 x5 x6 x7 x8 r0 r4 t0 z H locs ls hr0 hr4 hM hl hq
        have hq : qm_X13_smoothIn_5 K (q_X13_smoothIn K k) x1 x2 x3 x5 x6 x7 x8 r0 r4 t0 z = some z1 := hq
        unfold qm_X13_smoothIn_5 at hq
        refine lv_aload_n hx hb dmX13_smoothIn_143 rfl (lv_at hl 0 rfl) ?_
        refine mg13_452 hx hb hT hown hK hM hN hr0 dmX13_smoothIn_144 ?_
        refine lv_iload hx hb dmX13_smoothIn_147 (lv_at hl 7 rfl) ?_
        refine lv_iconst (v := 1) hx hb dmX13_smoothIn_149 (by decide) ?_
        refine lv_iadd hx hb dmX13_smoothIn_150 ?_
        refine tw_iald mX_ok hx hb hK hM (mrn_3 hr0) hq dmX13_smoothIn_151 (fun v15 hq => ?_)
        refine lv_iload_n hx hb dmX13_smoothIn_152 rfl (lv_at hl 3 rfl) ?_
        refine lv_icmp_gt (tgt := 162) hx hb dmX13_smoothIn_153 (by decide) (fun hc => ?_) (fun hc => ?_)
        · have hq := tw_it hq hc
          refine lv_iload_n hx hb dmX13_smoothIn_162 rfl (lv_at hl 3 rfl) ?_
          refine lv_iconst (v := 1) hx hb dmX13_smoothIn_163 (by decide) ?_
          refine lv_iadd hx hb dmX13_smoothIn_164 ?_
          refine lv_istore (lv' := [(8, .int (x3 + 1)), (0, .ref (u r0)), (1, .int x1), (2, .int x2), (3, .int x3), (4, .ref (u r4)), (5, .int x5), (6, .int x6), (7, .int x7)]) hx hb dmX13_smoothIn_165 hl (by decide) rfl (fun ls hl => ?_)
          exact ih_6 x1 x2 x3 x5 x6 x7 (x3 + 1) r0 r4 0 z H locs ls hr0 hr4 hM (lv_sub hl [1, 2, 3, 4, 5, 6, 7, 8, 0] rfl) hq
        · have hq := tw_if hq hc
          refine lv_iinc (v := (x7 + 1)) (lv' := [(7, .int (x7 + 1)), (0, .ref (u r0)), (1, .int x1), (2, .int x2), (3, .int x3), (4, .ref (u r4)), (5, .int x5), (6, .int x6)]) hx hb dmX13_smoothIn_156 hl (k := 7) rfl rfl (by decide) rfl (fun ls hl => ?_)
          refine lv_goto (tgt := 143) hx hb dmX13_smoothIn_159 (by decide) ?_
          exact ih_5 x1 x2 x3 x5 x6 (x7 + 1) 0 r0 r4 0 z H locs ls hr0 hr4 hM (lv_sub hl [1, 2, 3, 4, 5, 6, 7, 0] rfl) hq
      · intro x1 x2 x3 x5 x6 x7 x8 r0 r4 t0 z H locs ls hr0 hr4 hM hl hq
        have hq : qm_X13_smoothIn_6 K (q_X13_smoothIn K k) x1 x2 x3 x5 x6 x7 x8 r0 r4 t0 z = some z1 := hq
        unfold qm_X13_smoothIn_6 at hq
        refine lv_iload hx hb dmX13_smoothIn_167 (lv_at hl 8 rfl) ?_
        refine lv_aload_n hx hb dmX13_smoothIn_169 rfl (lv_at hl 0 rfl) ?_
        refine mg13_452 hx hb hT hown hK hM hN hr0 dmX13_smoothIn_170 ?_
        refine lv_iload hx hb dmX13_smoothIn_173 (lv_at hl 7 rfl) ?_
        refine lv_iconst (v := 1) hx hb dmX13_smoothIn_175 (by decide) ?_
        refine lv_iadd hx hb dmX13_smoothIn_176 ?_
        refine tw_iald mX_ok hx hb hK hM (mrn_3 hr0) hq dmX13_smoothIn_177 (fun v16 hq => ?_)
        refine lv_icmp_ge (tgt := 206) hx hb dmX13_smoothIn_178 (by decide) (fun hc => ?_) (fun hc => ?_)
        · have hq := tw_it hq hc
          refine lv_aload_n hx hb dmX13_smoothIn_206 rfl (lv_at hl 0 rfl) ?_
          refine mg13_452 hx hb hT hown hK hM hN hr0 dmX13_smoothIn_207 ?_
          refine lv_iload hx hb dmX13_smoothIn_210 (lv_at hl 7 rfl) ?_
          refine tw_iald mX_ok hx hb hK hM (mrn_3 hr0) hq dmX13_smoothIn_212 (fun v17 hq => ?_)
          refine lv_istore (lv' := [(8, .int v17), (0, .ref (u r0)), (1, .int x1), (2, .int x2), (3, .int x3), (4, .ref (u r4)), (5, .int x5), (6, .int x6), (7, .int x7)]) hx hb dmX13_smoothIn_213 hl (by decide) rfl (fun ls hl => ?_)
          exact ih_7 x1 x2 x3 x5 x6 x7 v17 r0 r4 0 z H locs ls hr0 hr4 hM (lv_sub hl [1, 2, 3, 4, 5, 6, 7, 8, 0] rfl) hq
        · have hq := tw_if hq hc
          refine lv_aload hx hb dmX13_smoothIn_181 (lv_at hl 4 rfl) ?_
          refine lv_aload_n hx hb dmX13_smoothIn_183 rfl (lv_at hl 0 rfl) ?_
          refine mg13_23 hx hb hT hown hK hM hN hr0 dmX13_smoothIn_184 ?_
          refine lv_iload hx hb dmX13_smoothIn_187 (lv_at hl 8 rfl) ?_
          refine tw_iald mX_ok hx hb hK hM (mrn_4 hr0) hq dmX13_smoothIn_189 (fun v18 hq => ?_)
          refine lv_aload_n hx hb dmX13_smoothIn_190 rfl (lv_at hl 0 rfl) ?_
          refine mg13_32 hx hb hT hown hK hM hN hr0 dmX13_smoothIn_191 ?_
          refine lv_iload hx hb dmX13_smoothIn_194 (lv_at hl 8 rfl) ?_
          refine tw_iald mX_ok hx hb hK hM (mrn_5 hr0) hq dmX13_smoothIn_196 (fun v19 hq => ?_)
          obtain ⟨z20, hcq, hq⟩ := tw_cl0 hq
          refine tw_calv hM (va_runV (As := [.int v18, .int v19]) (rest := []) ⟨hx, hb, hml, hown, hts⟩ (km_X12_add l D q u hU K r4 v18 v19 hr4 z z20 hcq) (cwV 2 hts (tw_gV wM_good wq_87 wq_15 wq_16 wq_13 wq_6) rfl rfl rfl cd_X12_add ⟨(Nat.le_of_ble_eq_true rfl), (Nat.le_of_ble_eq_true rfl)⟩) (mw_preV hK hN hM (mo_n hr4) rfl) rfl rfl hl.1 rfl (lv_room (Nat.le_of_ble_eq_true rfl)) dmX13_smoothIn_197 ⟨(Nat.le_of_ble_eq_true rfl), (Nat.le_of_ble_eq_true rfl)⟩) (fun H locs hM => ?_)
          refine lv_iinc (v := (x8 + 1)) (lv' := [(8, .int (x8 + 1)), (0, .ref (u r0)), (1, .int x1), (2, .int x2), (3, .int x3), (4, .ref (u r4)), (5, .int x5), (6, .int x6), (7, .int x7)]) hx hb dmX13_smoothIn_200 hl (k := 8) rfl rfl (by decide) rfl (fun ls hl => ?_)
          refine lv_goto (tgt := 167) hx hb dmX13_smoothIn_203 (by decide) ?_
          exact ih_6 x1 x2 x3 x5 x6 x7 (x8 + 1) r0 r4 0 z20 H locs ls hr0 hr4 hM (lv_sub hl [1, 2, 3, 4, 5, 6, 7, 8, 0] rfl) hq
      · intro x1 x2 x3 x5 x6 x7 x8 r0 r4 t0 z H locs ls hr0 hr4 hM hl hq
        have hq : qm_X13_smoothIn_7 K (q_X13_smoothIn K k) x1 x2 x3 x5 x6 x7 x8 r0 r4 t0 z = some z1 := hq
        unfold qm_X13_smoothIn_7 at hq
        refine lv_iload hx hb dmX13_smoothIn_215 (lv_at hl 8 rfl) ?_
        refine lv_iload_n hx hb dmX13_smoothIn_217 rfl (lv_at hl 3 rfl) ?_
        refine lv_icmp_ge (tgt := 246) hx hb dmX13_smoothIn_218 (by decide) (fun hc => ?_) (fun hc => ?_)
        · have hq := tw_it hq hc
          refine lv_iload_n hx hb dmX13_smoothIn_246 rfl (lv_at hl 2 rfl) ?_
          refine lv_iconst (v := 1) hx hb dmX13_smoothIn_247 (by decide) ?_
          refine lv_iadd hx hb dmX13_smoothIn_248 ?_
          refine lv_istore (lv' := [(8, .int (x2 + 1)), (0, .ref (u r0)), (1, .int x1), (2, .int x2), (3, .int x3), (4, .ref (u r4)), (5, .int x5), (6, .int x6), (7, .int x7)]) hx hb dmX13_smoothIn_249 hl (by decide) rfl (fun ls hl => ?_)
          exact ih_8 x1 x2 x3 x5 x6 x7 (x2 + 1) r0 r4 0 z H locs ls hr0 hr4 hM (lv_sub hl [1, 2, 3, 4, 5, 6, 7, 8, 0] rfl) hq
        · have hq := tw_if hq hc
          refine lv_aload hx hb dmX13_smoothIn_221 (lv_at hl 4 rfl) ?_
          refine lv_aload_n hx hb dmX13_smoothIn_223 rfl (lv_at hl 0 rfl) ?_
          refine mg13_23 hx hb hT hown hK hM hN hr0 dmX13_smoothIn_224 ?_
          refine lv_iload hx hb dmX13_smoothIn_227 (lv_at hl 8 rfl) ?_
          refine tw_iald mX_ok hx hb hK hM (mrn_4 hr0) hq dmX13_smoothIn_229 (fun v21 hq => ?_)
          refine lv_aload_n hx hb dmX13_smoothIn_230 rfl (lv_at hl 0 rfl) ?_
          refine mg13_32 hx hb hT hown hK hM hN hr0 dmX13_smoothIn_231 ?_
          refine lv_iload hx hb dmX13_smoothIn_234 (lv_at hl 8 rfl) ?_
          refine tw_iald mX_ok hx hb hK hM (mrn_5 hr0) hq dmX13_smoothIn_236 (fun v22 hq => ?_)
          obtain ⟨z23, hcq, hq⟩ := tw_cl0 hq
          refine tw_calv hM (va_runV (As := [.int v21, .int v22]) (rest := []) ⟨hx, hb, hml, hown, hts⟩ (km_X12_add l D q u hU K r4 v21 v22 hr4 z z23 hcq) (cwV 2 hts (tw_gV wM_good wq_87 wq_15 wq_16 wq_13 wq_6) rfl rfl rfl cd_X12_add ⟨(Nat.le_of_ble_eq_true rfl), (Nat.le_of_ble_eq_true rfl)⟩) (mw_preV hK hN hM (mo_n hr4) rfl) rfl rfl hl.1 rfl (lv_room (Nat.le_of_ble_eq_true rfl)) dmX13_smoothIn_237 ⟨(Nat.le_of_ble_eq_true rfl), (Nat.le_of_ble_eq_true rfl)⟩) (fun H locs hM => ?_)
          refine lv_iinc (v := (x8 + 1)) (lv' := [(8, .int (x8 + 1)), (0, .ref (u r0)), (1, .int x1), (2, .int x2), (3, .int x3), (4, .ref (u r4)), (5, .int x5), (6, .int x6), (7, .int x7)]) hx hb dmX13_smoothIn_240 hl (k := 8) rfl rfl (by decide) rfl (fun ls hl => ?_)
          refine lv_goto (tgt := 215) hx hb dmX13_smoothIn_243 (by decide) ?_
          exact ih_7 x1 x2 x3 x5 x6 x7 (x8 + 1) r0 r4 0 z23 H locs ls hr0 hr4 hM (lv_sub hl [1, 2, 3, 4, 5, 6, 7, 8, 0] rfl) hq
      · intro x1 x2 x3 x5 x6 x7 x8 r0 r4 t0 z H locs ls hr0 hr4 hM hl hq
        have hq : qm_X13_smoothIn_8 K (q_X13_smoothIn K k) x1 x2 x3 x5 x6 x7 x8 r0 r4 t0 z = some z1 := hq
        unfold qm_X13_smoothIn_8 at hq
        refine lv_iload hx hb dmX13_smoothIn_251 (lv_at hl 8 rfl) ?_
        refine lv_aload_n hx hb dmX13_smoothIn_253 rfl (lv_at hl 0 rfl) ?_
        refine mg13_452 hx hb hT hown hK hM hN hr0 dmX13_smoothIn_254 ?_
        refine lv_iload hx hb dmX13_smoothIn_257 (lv_at hl 6 rfl) ?_
        refine lv_iconst (v := 1) hx hb dmX13_smoothIn_259 (by decide) ?_
        refine lv_iadd hx hb dmX13_smoothIn_260 ?_
        refine tw_iald mX_ok hx hb hK hM (mrn_3 hr0) hq dmX13_smoothIn_261 (fun v24 hq => ?_)
        refine lv_icmp_ge (tgt := 290) hx hb dmX13_smoothIn_262 (by decide) (fun hc => ?_) (fun hc => ?_)
        · have hq := tw_it hq hc
          exact ih_9 x1 x2 x3 x5 x6 x7 0 r0 r4 0 z H locs ls hr0 hr4 hM (lv_sub hl [0, 1, 2, 3, 4, 5, 6, 7] rfl) hq
        · have hq := tw_if hq hc
          refine lv_aload hx hb dmX13_smoothIn_265 (lv_at hl 4 rfl) ?_
          refine lv_aload_n hx hb dmX13_smoothIn_267 rfl (lv_at hl 0 rfl) ?_
          refine mg13_23 hx hb hT hown hK hM hN hr0 dmX13_smoothIn_268 ?_
          refine lv_iload hx hb dmX13_smoothIn_271 (lv_at hl 8 rfl) ?_
          refine tw_iald mX_ok hx hb hK hM (mrn_4 hr0) hq dmX13_smoothIn_273 (fun v25 hq => ?_)
          refine lv_aload_n hx hb dmX13_smoothIn_274 rfl (lv_at hl 0 rfl) ?_
          refine mg13_32 hx hb hT hown hK hM hN hr0 dmX13_smoothIn_275 ?_
          refine lv_iload hx hb dmX13_smoothIn_278 (lv_at hl 8 rfl) ?_
          refine tw_iald mX_ok hx hb hK hM (mrn_5 hr0) hq dmX13_smoothIn_280 (fun v26 hq => ?_)
          obtain ⟨z27, hcq, hq⟩ := tw_cl0 hq
          refine tw_calv hM (va_runV (As := [.int v25, .int v26]) (rest := []) ⟨hx, hb, hml, hown, hts⟩ (km_X12_add l D q u hU K r4 v25 v26 hr4 z z27 hcq) (cwV 2 hts (tw_gV wM_good wq_87 wq_15 wq_16 wq_13 wq_6) rfl rfl rfl cd_X12_add ⟨(Nat.le_of_ble_eq_true rfl), (Nat.le_of_ble_eq_true rfl)⟩) (mw_preV hK hN hM (mo_n hr4) rfl) rfl rfl hl.1 rfl (lv_room (Nat.le_of_ble_eq_true rfl)) dmX13_smoothIn_281 ⟨(Nat.le_of_ble_eq_true rfl), (Nat.le_of_ble_eq_true rfl)⟩) (fun H locs hM => ?_)
          refine lv_iinc (v := (x8 + 1)) (lv' := [(8, .int (x8 + 1)), (0, .ref (u r0)), (1, .int x1), (2, .int x2), (3, .int x3), (4, .ref (u r4)), (5, .int x5), (6, .int x6), (7, .int x7)]) hx hb dmX13_smoothIn_284 hl (k := 8) rfl rfl (by decide) rfl (fun ls hl => ?_)
          refine lv_goto (tgt := 251) hx hb dmX13_smoothIn_287 (by decide) ?_
          exact ih_8 x1 x2 x3 x5 x6 x7 (x8 + 1) r0 r4 0 z27 H locs ls hr0 hr4 hM (lv_sub hl [1, 2, 3, 4, 5, 6, 7, 8, 0] rfl) hq
      · intro x1 x2 x3 x5 x6 x7 x8 r0 r4 t0 z H locs ls hr0 hr4 hM hl hq
        have hq : qm_X13_smoothIn_9 K (q_X13_smoothIn K k) x1 x2 x3 x5 x6 x7 x8 r0 r4 t0 z = some z1 := hq
        unfold qm_X13_smoothIn_9 at hq
        refine lv_aload hx hb dmX13_smoothIn_290 (lv_at hl 4 rfl) ?_
        obtain ⟨z28, hcq, hq⟩ := tw_cl0 hq
        refine tw_calv hM (va_runV (As := []) (rest := []) ⟨hx, hb, hml, hown, hts⟩ (km_X12_end l D q u hU K r4 hr4 z z28 hcq) (cwV 0 hts (tw_gV wM_good wq_86 wq_18 wq_19 wq_13 wq_7) rfl rfl rfl cd_X12_end ⟨(Nat.le_of_ble_eq_true rfl), (Nat.le_of_ble_eq_true rfl)⟩) (mw_preV hK hN hM (mo_n hr4) rfl) rfl rfl hl.1 rfl (lv_room (Nat.le_of_ble_eq_true rfl)) dmX13_smoothIn_292 ⟨(Nat.le_of_ble_eq_true rfl), (Nat.le_of_ble_eq_true rfl)⟩) (fun H locs hM => ?_)
        refine lv_goto (tgt := 380) hx hb dmX13_smoothIn_295 (by decide) ?_
        exact ih_12 x1 x2 x3 x5 x6 0 0 r0 r4 0 z28 H locs ls hr0 hr4 hM (lv_sub hl [0, 1, 2, 3, 4, 5, 6] rfl) hq
      · intro x1 x2 x3 x5 x6 x7 x8 r0 r4 t0 z H locs ls hr0 hr4 hM hl hq
        have hq : qm_X13_smoothIn_10 K (q_X13_smoothIn K k) x1 x2 x3 x5 x6 x7 x8 r0 r4 t0 z = some z1 := hq
        unfold qm_X13_smoothIn_10 at hq
        refine lv_aload_n hx hb dmX13_smoothIn_327 rfl (lv_at hl 0 rfl) ?_
        refine mg13_452 hx hb hT hown hK hM hN hr0 dmX13_smoothIn_328 ?_
        refine lv_iload hx hb dmX13_smoothIn_331 (lv_at hl 6 rfl) ?_
        refine tw_iald mX_ok hx hb hK hM (mrn_3 hr0) hq dmX13_smoothIn_333 (fun v29 hq => ?_)
        refine lv_istore (lv' := [(7, .int v29), (0, .ref (u r0)), (1, .int x1), (2, .int x2), (3, .int x3), (4, .ref (u r4)), (5, .int x5), (6, .int x6)]) hx hb dmX13_smoothIn_334 hl (by decide) rfl (fun ls hl => ?_)
        exact ih_11 x1 x2 x3 x5 x6 v29 0 r0 r4 0 z H locs ls hr0 hr4 hM (lv_sub hl [1, 2, 3, 4, 5, 6, 7, 0] rfl) hq
      · intro x1 x2 x3 x5 x6 x7 x8 r0 r4 t0 z H locs ls hr0 hr4 hM hl hq
        have hq : qm_X13_smoothIn_11 K (q_X13_smoothIn K k) x1 x2 x3 x5 x6 x7 x8 r0 r4 t0 z = some z1 := hq
        unfold qm_X13_smoothIn_11 at hq
        refine lv_iload hx hb dmX13_smoothIn_336 (lv_at hl 7 rfl) ?_
        refine lv_aload_n hx hb dmX13_smoothIn_338 rfl (lv_at hl 0 rfl) ?_
        refine mg13_452 hx hb hT hown hK hM hN hr0 dmX13_smoothIn_339 ?_
        refine lv_iload hx hb dmX13_smoothIn_342 (lv_at hl 6 rfl) ?_
        refine lv_iconst (v := 1) hx hb dmX13_smoothIn_344 (by decide) ?_
        refine lv_iadd hx hb dmX13_smoothIn_345 ?_
        refine tw_iald mX_ok hx hb hK hM (mrn_3 hr0) hq dmX13_smoothIn_346 (fun v30 hq => ?_)
        refine lv_icmp_ge (tgt := 375) hx hb dmX13_smoothIn_347 (by decide) (fun hc => ?_) (fun hc => ?_)
        · have hq := tw_it hq hc
          refine lv_aload hx hb dmX13_smoothIn_375 (lv_at hl 4 rfl) ?_
          obtain ⟨z31, hcq, hq⟩ := tw_cl0 hq
          refine tw_calv hM (va_runV (As := []) (rest := []) ⟨hx, hb, hml, hown, hts⟩ (km_X12_end l D q u hU K r4 hr4 z z31 hcq) (cwV 0 hts (tw_gV wM_good wq_86 wq_18 wq_19 wq_13 wq_7) rfl rfl rfl cd_X12_end ⟨(Nat.le_of_ble_eq_true rfl), (Nat.le_of_ble_eq_true rfl)⟩) (mw_preV hK hN hM (mo_n hr4) rfl) rfl rfl hl.1 rfl (lv_room (Nat.le_of_ble_eq_true rfl)) dmX13_smoothIn_377 ⟨(Nat.le_of_ble_eq_true rfl), (Nat.le_of_ble_eq_true rfl)⟩) (fun H locs hM => ?_)
          exact ih_12 x1 x2 x3 x5 x6 0 0 r0 r4 0 z31 H locs ls hr0 hr4 hM (lv_sub hl [0, 1, 2, 3, 4, 5, 6] rfl) hq
        · have hq := tw_if hq hc
          refine lv_aload hx hb dmX13_smoothIn_350 (lv_at hl 4 rfl) ?_
          refine lv_aload_n hx hb dmX13_smoothIn_352 rfl (lv_at hl 0 rfl) ?_
          refine mg13_23 hx hb hT hown hK hM hN hr0 dmX13_smoothIn_353 ?_
          refine lv_iload hx hb dmX13_smoothIn_356 (lv_at hl 7 rfl) ?_
          refine tw_iald mX_ok hx hb hK hM (mrn_4 hr0) hq dmX13_smoothIn_358 (fun v32 hq => ?_)
          refine lv_aload_n hx hb dmX13_smoothIn_359 rfl (lv_at hl 0 rfl) ?_
          refine mg13_32 hx hb hT hown hK hM hN hr0 dmX13_smoothIn_360 ?_
          refine lv_iload hx hb dmX13_smoothIn_363 (lv_at hl 7 rfl) ?_
          refine tw_iald mX_ok hx hb hK hM (mrn_5 hr0) hq dmX13_smoothIn_365 (fun v33 hq => ?_)
          obtain ⟨z34, hcq, hq⟩ := tw_cl0 hq
          refine tw_calv hM (va_runV (As := [.int v32, .int v33]) (rest := []) ⟨hx, hb, hml, hown, hts⟩ (km_X12_add l D q u hU K r4 v32 v33 hr4 z z34 hcq) (cwV 2 hts (tw_gV wM_good wq_87 wq_15 wq_16 wq_13 wq_6) rfl rfl rfl cd_X12_add ⟨(Nat.le_of_ble_eq_true rfl), (Nat.le_of_ble_eq_true rfl)⟩) (mw_preV hK hN hM (mo_n hr4) rfl) rfl rfl hl.1 rfl (lv_room (Nat.le_of_ble_eq_true rfl)) dmX13_smoothIn_366 ⟨(Nat.le_of_ble_eq_true rfl), (Nat.le_of_ble_eq_true rfl)⟩) (fun H locs hM => ?_)
          refine lv_iinc (v := (x7 + 1)) (lv' := [(7, .int (x7 + 1)), (0, .ref (u r0)), (1, .int x1), (2, .int x2), (3, .int x3), (4, .ref (u r4)), (5, .int x5), (6, .int x6)]) hx hb dmX13_smoothIn_369 hl (k := 7) rfl rfl (by decide) rfl (fun ls hl => ?_)
          refine lv_goto (tgt := 336) hx hb dmX13_smoothIn_372 (by decide) ?_
          exact ih_11 x1 x2 x3 x5 x6 (x7 + 1) 0 r0 r4 0 z34 H locs ls hr0 hr4 hM (lv_sub hl [1, 2, 3, 4, 5, 6, 7, 0] rfl) hq
      · intro x1 x2 x3 x5 x6 x7 x8 r0 r4 t0 z H locs ls hr0 hr4 hM hl hq
        have hq : qm_X13_smoothIn_12 K (q_X13_smoothIn K k) x1 x2 x3 x5 x6 x7 x8 r0 r4 t0 z = some z1 := hq
        unfold qm_X13_smoothIn_12 at hq
        refine lv_iinc (v := (x6 + 1)) (lv' := [(6, .int (x6 + 1)), (0, .ref (u r0)), (1, .int x1), (2, .int x2), (3, .int x3), (4, .ref (u r4)), (5, .int x5)]) hx hb dmX13_smoothIn_380 hl (k := 6) rfl rfl (by decide) rfl (fun ls hl => ?_)
        refine lv_goto (tgt := 33) hx hb dmX13_smoothIn_383 (by decide) ?_
        exact ih_2 x1 x2 x3 x5 (x6 + 1) 0 0 r0 r4 0 z H locs ls hr0 hr4 hM (lv_sub hl [1, 2, 3, 4, 5, 6, 0] rfl) hq
      · intro x1 x2 x3 x5 x6 x7 x8 r0 r4 t0 z H locs ls hr0 hr4 hM hl hq
        have hq : qm_X13_smoothIn_13 K (q_X13_smoothIn K k) x1 x2 x3 x5 x6 x7 x8 r0 r4 t0 z = some z1 := hq
        unfold qm_X13_smoothIn_13 at hq
        refine lv_iload hx hb dmX13_smoothIn_396 (lv_at hl 6 rfl) ?_
        refine lv_iload_n hx hb dmX13_smoothIn_398 rfl (lv_at hl 3 rfl) ?_
        refine lv_icmp_ge (tgt := 427) hx hb dmX13_smoothIn_399 (by decide) (fun hc => ?_) (fun hc => ?_)
        · have hq := tw_it hq hc
          refine lv_aload hx hb dmX13_smoothIn_427 (lv_at hl 4 rfl) ?_
          obtain ⟨z35, hcq, hq⟩ := tw_cl0 hq
          refine tw_calv hM (va_runV (As := []) (rest := []) ⟨hx, hb, hml, hown, hts⟩ (km_X12_end l D q u hU K r4 hr4 z z35 hcq) (cwV 0 hts (tw_gV wM_good wq_86 wq_18 wq_19 wq_13 wq_7) rfl rfl rfl cd_X12_end ⟨(Nat.le_of_ble_eq_true rfl), (Nat.le_of_ble_eq_true rfl)⟩) (mw_preV hK hN hM (mo_n hr4) rfl) rfl rfl hl.1 rfl (lv_room (Nat.le_of_ble_eq_true rfl)) dmX13_smoothIn_429 ⟨(Nat.le_of_ble_eq_true rfl), (Nat.le_of_ble_eq_true rfl)⟩) (fun H locs hM => ?_)
          exact mw_vret hx hb hr hlocks hM hq hQQ dmX13_smoothIn_432
        · have hq := tw_if hq hc
          refine lv_aload hx hb dmX13_smoothIn_402 (lv_at hl 4 rfl) ?_
          refine lv_aload_n hx hb dmX13_smoothIn_404 rfl (lv_at hl 0 rfl) ?_
          refine mg13_23 hx hb hT hown hK hM hN hr0 dmX13_smoothIn_405 ?_
          refine lv_iload hx hb dmX13_smoothIn_408 (lv_at hl 6 rfl) ?_
          refine tw_iald mX_ok hx hb hK hM (mrn_4 hr0) hq dmX13_smoothIn_410 (fun v36 hq => ?_)
          refine lv_aload_n hx hb dmX13_smoothIn_411 rfl (lv_at hl 0 rfl) ?_
          refine mg13_32 hx hb hT hown hK hM hN hr0 dmX13_smoothIn_412 ?_
          refine lv_iload hx hb dmX13_smoothIn_415 (lv_at hl 6 rfl) ?_
          refine tw_iald mX_ok hx hb hK hM (mrn_5 hr0) hq dmX13_smoothIn_417 (fun v37 hq => ?_)
          obtain ⟨z38, hcq, hq⟩ := tw_cl0 hq
          refine tw_calv hM (va_runV (As := [.int v36, .int v37]) (rest := []) ⟨hx, hb, hml, hown, hts⟩ (km_X12_add l D q u hU K r4 v36 v37 hr4 z z38 hcq) (cwV 2 hts (tw_gV wM_good wq_87 wq_15 wq_16 wq_13 wq_6) rfl rfl rfl cd_X12_add ⟨(Nat.le_of_ble_eq_true rfl), (Nat.le_of_ble_eq_true rfl)⟩) (mw_preV hK hN hM (mo_n hr4) rfl) rfl rfl hl.1 rfl (lv_room (Nat.le_of_ble_eq_true rfl)) dmX13_smoothIn_418 ⟨(Nat.le_of_ble_eq_true rfl), (Nat.le_of_ble_eq_true rfl)⟩) (fun H locs hM => ?_)
          refine lv_iinc (v := (x6 + 1)) (lv' := [(6, .int (x6 + 1)), (0, .ref (u r0)), (1, .int x1), (2, .int x2), (3, .int x3), (4, .ref (u r4)), (5, .int x5)]) hx hb dmX13_smoothIn_421 hl (k := 6) rfl rfl (by decide) rfl (fun ls hl => ?_)
          refine lv_goto (tgt := 396) hx hb dmX13_smoothIn_424 (by decide) ?_
          exact ih_13 x1 x2 x3 x5 (x6 + 1) 0 0 r0 r4 0 z38 H locs ls hr0 hr4 hM (lv_sub hl [1, 2, 3, 4, 5, 6, 0] rfl) hq
  exact (key K).1 x1 x2 x3 0 0 0 0 r0 r4 0 z s.heap [] ls hr0 hr4 hM (lv_sub hl [0, 1, 2, 3, 4] rfl) hq
theorem dmX13_smooth_0 : decode cX13_smooth 0 = .ok (.aload_n 0, 1) := dw_at cX13_smooth_k0 (p := 0) rfl (by decide +kernel)
theorem dmX13_smooth_1 : decode cX13_smooth 1 = .ok (.iconst 0, 1) := dw_at cX13_smooth_k0 (p := 1) rfl (by decide +kernel)
theorem dmX13_smooth_2 : decode cX13_smooth 2 = .ok (.putfield 1, 3) := dw_at cX13_smooth_k0 (p := 2) rfl (by decide +kernel)
theorem dmX13_smooth_5 : decode cX13_smooth 5 = .ok (.aload_n 0, 1) := dw_at cX13_smooth_k0 (p := 5) rfl (by decide +kernel)
theorem dmX13_smooth_6 : decode cX13_smooth 6 = .ok (.iload_n 1, 1) := dw_at cX13_smooth_k0 (p := 6) rfl (by decide +kernel)
theorem dmX13_smooth_7 : decode cX13_smooth 7 = .ok (.invokevirtual 423, 3) := dw_at cX13_smooth_k0 (p := 7) rfl (by decide +kernel)
theorem dmX13_smooth_10 : decode cX13_smooth 10 = .ok (.ifCond .ne 9, 3) := dw_at cX13_smooth_k0 (p := 10) rfl (by decide +kernel)
theorem dmX13_smooth_13 : decode cX13_smooth 13 = .ok (.aload_n 0, 1) := dw_at cX13_smooth_k0 (p := 13) rfl (by decide +kernel)
theorem dmX13_smooth_14 : decode cX13_smooth 14 = .ok (.iconst 1, 1) := dw_at cX13_smooth_k0 (p := 14) rfl (by decide +kernel)
theorem dmX13_smooth_15 : decode cX13_smooth 15 = .ok (.invokevirtual 403, 3) := dw_at cX13_smooth_k0 (p := 15) rfl (by decide +kernel)
theorem dmX13_smooth_18 : decode cX13_smooth 18 = .ok (.ireturn, 1) := dw_at cX13_smooth_k0 (p := 18) rfl (by decide +kernel)
theorem dmX13_smooth_19 : decode cX13_smooth 19 = .ok (.aload_n 0, 1) := dw_at cX13_smooth_k0 (p := 19) rfl (by decide +kernel)
theorem dmX13_smooth_20 : decode cX13_smooth 20 = .ok (.iload_n 1, 1) := dw_at cX13_smooth_k0 (p := 20) rfl (by decide +kernel)
theorem dmX13_smooth_21 : decode cX13_smooth 21 = .ok (.aload_n 0, 1) := dw_at cX13_smooth_k0 (p := 21) rfl (by decide +kernel)
theorem dmX13_smooth_22 : decode cX13_smooth 22 = .ok (.getfield 114, 3) := dw_at cX13_smooth_k0 (p := 22) rfl (by decide +kernel)
theorem dmX13_smooth_25 : decode cX13_smooth 25 = .ok (.invokevirtual 434, 3) := dw_at cX13_smooth_k1 (p := 0) rfl (by decide +kernel)
theorem dmX13_smooth_28 : decode cX13_smooth 28 = .ok (.iload_n 2, 1) := dw_at cX13_smooth_k1 (p := 3) rfl (by decide +kernel)
theorem dmX13_smooth_29 : decode cX13_smooth 29 = .ok (.ifCond .lt 16, 3) := dw_at cX13_smooth_k1 (p := 4) rfl (by decide +kernel)
theorem dmX13_smooth_32 : decode cX13_smooth 32 = .ok (.iload_n 2, 1) := dw_at cX13_smooth_k1 (p := 7) rfl (by decide +kernel)
theorem dmX13_smooth_33 : decode cX13_smooth 33 = .ok (.aload_n 0, 1) := dw_at cX13_smooth_k1 (p := 8) rfl (by decide +kernel)
theorem dmX13_smooth_34 : decode cX13_smooth 34 = .ok (.getfield 114, 3) := dw_at cX13_smooth_k1 (p := 9) rfl (by decide +kernel)
theorem dmX13_smooth_37 : decode cX13_smooth 37 = .ok (.getfield 44, 3) := dw_at cX13_smooth_k1 (p := 12) rfl (by decide +kernel)
theorem dmX13_smooth_40 : decode cX13_smooth 40 = .ok (.iconst 2, 1) := dw_at cX13_smooth_k1 (p := 15) rfl (by decide +kernel)
theorem dmX13_smooth_41 : decode cX13_smooth 41 = .ok (.idiv, 1) := dw_at cX13_smooth_k1 (p := 16) rfl (by decide +kernel)
theorem dmX13_smooth_42 : decode cX13_smooth 42 = .ok (.if_icmp .lt 9, 3) := dw_at cX13_smooth_k1 (p := 17) rfl (by decide +kernel)
theorem dmX13_smooth_45 : decode cX13_smooth 45 = .ok (.aload_n 0, 1) := dw_at cX13_smooth_k1 (p := 20) rfl (by decide +kernel)
theorem dmX13_smooth_46 : decode cX13_smooth 46 = .ok (.iconst 1, 1) := dw_at cX13_smooth_k1 (p := 21) rfl (by decide +kernel)
theorem dmX13_smooth_47 : decode cX13_smooth 47 = .ok (.invokevirtual 403, 3) := dw_at cX13_smooth_k1 (p := 22) rfl (by decide +kernel)
theorem dmX13_smooth_50 : decode cX13_smooth 50 = .ok (.ireturn, 1) := dw_at cX13_smooth_k2 (p := 0) rfl (by decide +kernel)
theorem dmX13_smooth_51 : decode cX13_smooth 51 = .ok (.iconst 0, 1) := dw_at cX13_smooth_k2 (p := 1) rfl (by decide +kernel)
theorem dmX13_smooth_52 : decode cX13_smooth 52 = .ok (.istore_n 3, 1) := dw_at cX13_smooth_k2 (p := 2) rfl (by decide +kernel)
theorem dmX13_smooth_53 : decode cX13_smooth 53 = .ok (.aload_n 0, 1) := dw_at cX13_smooth_k2 (p := 3) rfl (by decide +kernel)
theorem dmX13_smooth_54 : decode cX13_smooth 54 = .ok (.getfield 114, 3) := dw_at cX13_smooth_k2 (p := 4) rfl (by decide +kernel)
theorem dmX13_smooth_57 : decode cX13_smooth 57 = .ok (.getfield 23, 3) := dw_at cX13_smooth_k2 (p := 7) rfl (by decide +kernel)
theorem dmX13_smooth_60 : decode cX13_smooth 60 = .ok (.iload_n 3, 1) := dw_at cX13_smooth_k2 (p := 10) rfl (by decide +kernel)
theorem dmX13_smooth_61 : decode cX13_smooth 61 = .ok (.iaload, 1) := dw_at cX13_smooth_k2 (p := 11) rfl (by decide +kernel)
theorem dmX13_smooth_62 : decode cX13_smooth 62 = .ok (.iload_n 2, 1) := dw_at cX13_smooth_k2 (p := 12) rfl (by decide +kernel)
theorem dmX13_smooth_63 : decode cX13_smooth 63 = .ok (.if_icmp .eq 9, 3) := dw_at cX13_smooth_k2 (p := 13) rfl (by decide +kernel)
theorem dmX13_smooth_66 : decode cX13_smooth 66 = .ok (.iinc 3 1, 3) := dw_at cX13_smooth_k2 (p := 16) rfl (by decide +kernel)
theorem dmX13_smooth_69 : decode cX13_smooth 69 = .ok (.goto (-16), 3) := dw_at cX13_smooth_k2 (p := 19) rfl (by decide +kernel)
theorem dmX13_smooth_72 : decode cX13_smooth 72 = .ok (.aload_n 0, 1) := dw_at cX13_smooth_k2 (p := 22) rfl (by decide +kernel)
theorem dmX13_smooth_73 : decode cX13_smooth 73 = .ok (.getfield 114, 3) := dw_at cX13_smooth_k2 (p := 23) rfl (by decide +kernel)
theorem dmX13_smooth_76 : decode cX13_smooth 76 = .ok (.aload_n 0, 1) := dw_at cX13_smooth_k3 (p := 0) rfl (by decide +kernel)
theorem dmX13_smooth_77 : decode cX13_smooth 77 = .ok (.getfield 114, 3) := dw_at cX13_smooth_k3 (p := 1) rfl (by decide +kernel)
theorem dmX13_smooth_80 : decode cX13_smooth 80 = .ok (.getfield 18, 3) := dw_at cX13_smooth_k3 (p := 4) rfl (by decide +kernel)
theorem dmX13_smooth_83 : decode cX13_smooth 83 = .ok (.iload_n 3, 1) := dw_at cX13_smooth_k3 (p := 7) rfl (by decide +kernel)
theorem dmX13_smooth_84 : decode cX13_smooth 84 = .ok (.iaload, 1) := dw_at cX13_smooth_k3 (p := 8) rfl (by decide +kernel)
theorem dmX13_smooth_85 : decode cX13_smooth 85 = .ok (.iload_n 3, 1) := dw_at cX13_smooth_k3 (p := 9) rfl (by decide +kernel)
theorem dmX13_smooth_86 : decode cX13_smooth 86 = .ok (.aload_n 0, 1) := dw_at cX13_smooth_k3 (p := 10) rfl (by decide +kernel)
theorem dmX13_smooth_87 : decode cX13_smooth 87 = .ok (.getfield 114, 3) := dw_at cX13_smooth_k3 (p := 11) rfl (by decide +kernel)
theorem dmX13_smooth_90 : decode cX13_smooth 90 = .ok (.getfield 41, 3) := dw_at cX13_smooth_k3 (p := 14) rfl (by decide +kernel)
theorem dmX13_smooth_93 : decode cX13_smooth 93 = .ok (.iload_n 3, 1) := dw_at cX13_smooth_k3 (p := 17) rfl (by decide +kernel)
theorem dmX13_smooth_94 : decode cX13_smooth 94 = .ok (.iaload, 1) := dw_at cX13_smooth_k3 (p := 18) rfl (by decide +kernel)
theorem dmX13_smooth_95 : decode cX13_smooth 95 = .ok (.aload_n 0, 1) := dw_at cX13_smooth_k3 (p := 19) rfl (by decide +kernel)
theorem dmX13_smooth_96 : decode cX13_smooth 96 = .ok (.getfield 121, 3) := dw_at cX13_smooth_k3 (p := 20) rfl (by decide +kernel)
theorem dmX13_smooth_99 : decode cX13_smooth 99 = .ok (.invokestatic 458, 3) := dw_at cX13_smooth_k3 (p := 23) rfl (by decide +kernel)
theorem dmX13_smooth_102 : decode cX13_smooth 102 = .ok (.aload_n 0, 1) := dw_at cX13_smooth_k4 (p := 0) rfl (by decide +kernel)
theorem dmX13_smooth_103 : decode cX13_smooth 103 = .ok (.getfield 121, 3) := dw_at cX13_smooth_k4 (p := 1) rfl (by decide +kernel)
theorem dmX13_smooth_106 : decode cX13_smooth 106 = .ok (.getfield 407, 3) := dw_at cX13_smooth_k4 (p := 4) rfl (by decide +kernel)
theorem dmX13_smooth_109 : decode cX13_smooth 109 = .ok (.bipush 6, 2) := dw_at cX13_smooth_k4 (p := 7) rfl (by decide +kernel)
theorem dmX13_smooth_111 : decode cX13_smooth 111 = .ok (.if_icmp .le 9, 3) := dw_at cX13_smooth_k4 (p := 9) rfl (by decide +kernel)
theorem dmX13_smooth_114 : decode cX13_smooth 114 = .ok (.aload_n 0, 1) := dw_at cX13_smooth_k4 (p := 12) rfl (by decide +kernel)
theorem dmX13_smooth_115 : decode cX13_smooth 115 = .ok (.iconst 2, 1) := dw_at cX13_smooth_k4 (p := 13) rfl (by decide +kernel)
theorem dmX13_smooth_116 : decode cX13_smooth 116 = .ok (.invokevirtual 403, 3) := dw_at cX13_smooth_k4 (p := 14) rfl (by decide +kernel)
theorem dmX13_smooth_119 : decode cX13_smooth 119 = .ok (.ireturn, 1) := dw_at cX13_smooth_k4 (p := 17) rfl (by decide +kernel)
theorem dmX13_smooth_120 : decode cX13_smooth 120 = .ok (.aload_n 0, 1) := dw_at cX13_smooth_k4 (p := 18) rfl (by decide +kernel)
theorem dmX13_smooth_121 : decode cX13_smooth 121 = .ok (.invokevirtual 392, 3) := dw_at cX13_smooth_k4 (p := 19) rfl (by decide +kernel)
theorem dmX13_smooth_124 : decode cX13_smooth 124 = .ok (.iconst (-1), 1) := dw_at cX13_smooth_k4 (p := 22) rfl (by decide +kernel)
theorem dmX13_smooth_125 : decode cX13_smooth 125 = .ok (.if_icmp .ne 9, 3) := dw_at cX13_smooth_k4 (p := 23) rfl (by decide +kernel)
theorem dmX13_smooth_128 : decode cX13_smooth 128 = .ok (.aload_n 0, 1) := dw_at cX13_smooth_k5 (p := 0) rfl (by decide +kernel)
theorem dmX13_smooth_129 : decode cX13_smooth 129 = .ok (.iconst 3, 1) := dw_at cX13_smooth_k5 (p := 1) rfl (by decide +kernel)
theorem dmX13_smooth_130 : decode cX13_smooth 130 = .ok (.invokevirtual 403, 3) := dw_at cX13_smooth_k5 (p := 2) rfl (by decide +kernel)
theorem dmX13_smooth_133 : decode cX13_smooth 133 = .ok (.ireturn, 1) := dw_at cX13_smooth_k5 (p := 5) rfl (by decide +kernel)
theorem dmX13_smooth_134 : decode cX13_smooth 134 = .ok (.aload_n 0, 1) := dw_at cX13_smooth_k5 (p := 6) rfl (by decide +kernel)
theorem dmX13_smooth_135 : decode cX13_smooth 135 = .ok (.invokevirtual 420, 3) := dw_at cX13_smooth_k5 (p := 7) rfl (by decide +kernel)
theorem dmX13_smooth_138 : decode cX13_smooth 138 = .ok (.ireturn, 1) := dw_at cX13_smooth_k5 (p := 10) rfl (by decide +kernel)
def qm_X13_smooth_0 (K : Nat) (go : Nat → Int32 → Int32 → Int32 → ow_MS → Option (Int32 × ow_MS)) (x1 : Int32) (x2 : Int32) (x3 : Int32) (z : ow_MS) : Option (Int32 × ow_MS) :=
 wrF z 1 0 fun z1 => cs1 (qe_X13_has K x1 z1) fun v3 z2 => (if v3 = 0 then cs1 (qe_X13_fails K 1 z2) fun v7 z6 => some (v7, z6)
 else cs0 (qe_X13_open K x1 1000 z2) fun z4 => (if x2 < 0 then go 1 x1 x2 0 z4
 else rdF z4 (1000 + 1) fun v5 => nzI 2 ((if x2 < (v5 / 2) then go 2 x1 x2 0 z4
 else go 1 x1 x2 0 z4))))
def qm_X13_smooth_1 (K : Nat) (go : Nat → Int32 → Int32 → Int32 → ow_MS → Option (Int32 × ow_MS)) (x1 : Int32) (x2 : Int32) (x3 : Int32) (z : ow_MS) : Option (Int32 × ow_MS) :=
 cs1 (qe_X13_fails K 1 z) fun v9 z8 => some (v9, z8)
def qm_X13_smooth_2 (K : Nat) (go : Nat → Int32 → Int32 → Int32 → ow_MS → Option (Int32 × ow_MS)) (x1 : Int32) (x2 : Int32) (x3 : Int32) (z : ow_MS) : Option (Int32 × ow_MS) :=
 rdI mX z (1000 + 4) x3 fun v10 => (if v10 = x2 then rdI mX z (1000 + 8) x3 fun v11 => rdI mX z (1000 + 7) x3 fun v12 => cs0 (qe_X13_smoothIn K 1000 v11 x3 v12 3000 z) fun z13 => rdF z13 (3000 + 2) fun v14 => (if v14 ≤ 6 then cs1 (qe_X13_free K z13) fun v16 z15 => (if v16 = (-1) then cs1 (qe_X13_fails K 3 z15) fun v20 z19 => some (v20, z19)
 else cs1 (qe_X13_keep K z15) fun v18 z17 => some (v18, z17))
 else cs1 (qe_X13_fails K 2 z13) fun v22 z21 => some (v22, z21))
 else go 2 x1 x2 (x3 + 1) z)
def qb_X13_smooth (K : Nat) (go : Nat → Int32 → Int32 → Int32 → ow_MS → Option (Int32 × ow_MS)) (L : Nat) (x1 : Int32) (x2 : Int32) (x3 : Int32) (z : ow_MS) : Option (Int32 × ow_MS) := match L with
  | 0 => qm_X13_smooth_0 K go x1 x2 x3 z
  | 1 => qm_X13_smooth_1 K go x1 x2 x3 z
  | 2 => qm_X13_smooth_2 K go x1 x2 x3 z
  | _ => none
def q_X13_smooth (K : Nat) : Nat → Nat → Int32 → Int32 → Int32 → ow_MS → Option (Int32 × ow_MS)
  | 0 => fun _ _ _ _ _ => none
  | k + 1 => qb_X13_smooth K (q_X13_smooth K k)
def qe_X13_smooth (K : Nat) (x1 : Int32) (x2 : Int32) (z : ow_MS) : Option (Int32 × ow_MS) := q_X13_smooth K K 0 x1 x2 0 z
abbrev wm_X13_smooth : List Cond := .code yX13_smooth cX13_smooth 4 (some .int) :: wM
theorem cd_X13_smooth : yX13_smooth.cls = RX13 ∧ yX13_smooth.cls ≠ "java/lang/invoke/MethodHandle" ∧ yX13_smooth.cls ≠ "java/lang/invoke/VarHandle" ∧ (parseMethodDescriptor yX13_smooth.desc).map (fun d => d.parameters.length) = some 2 := by decide +kernel
set_option maxHeartbeats 4000000 in
set_option maxRecDepth 100000 in
theorem km_X13_smooth (l : Launch) (D : va_G) (q : ow_Q5) (u : Nat → Nat) (hU : tw_inj mX u) (K : Nat) (x1 : Int32) (x2 : Int32)  (z z1 : ow_MS) (r : Int32) (hq : qe_X13_smooth K x1 x2 z = some (r, z1)) : Met l yX13_smooth wm_X13_smooth ({ frames := 5, cells := 0, slots := 0, locals := 132 } : Room) (va_Pc [.ref (u 0), .int x1, .int x2] (mw_pre D q u z)) (va_Qi (fun x (_ : Unit) => x = r) (fun _ t => va_P D vwCl (tw mX q u z1) t.heap) (tw_A mX u)) 0 0 (tw_A mX u) := by
  refine Met.ofW (cc := cX13_smooth) (maxL := 4) (ret := (some .int)) (by decide) rfl ?_
  intro p e s m args below meth c s₁ B hml hv
  obtain ⟨rfl, hP, hK, hN⟩ := hv
  have hx := B.exec
  have hb := B.bytes
  have hr := B.returns
  have hts := atoms_spec (ws := wm_X13_smooth) B.pre
  have hT : ∀ w ∈ wM, w.before ([.ref (u 0), .int x1, .int x2] : List Value).toArray s = true := fun w h => hts w (List.mem_cons_of_mem _ h)
  have hown : s.vm.findClass RX13 = some m.cls := findClass_of_methodNamed B.named
  have hlocks := B.notSynchronized
  have hM : tw_M D vwCl mX q s.heap u z s.heap [] := ⟨hP, va_S.rf⟩
  have hl := lv_entry ([.ref (u 0), .int x1, .int x2]) (n := 4) (Nat.le_of_ble_eq_true rfl)
  rw [lg_entry_eq]
  generalize (lg_sl ([.ref (u 0), .int x1, .int x2]) ++ List.replicate (4 - (lg_sl ([.ref (u 0), .int x1, .int x2])).length) Slot.unset).toArray = ls at hl ⊢
  have hl : lv_has ls 4 [(0, .ref (u 0)), (1, .int x1), (2, .int x2)] := hl
  refine ow_named (fun QQ hQQ => ?_)
  generalize ([.ref (u 0), .int x1, .int x2] : List Value).toArray = args at hts hT hQQ ⊢
  have key : ∀ k : Nat, (∀ (x1 : Int32) (x2 : Int32) (x3 : Int32) (z : ow_MS) (H : Heap) (locs : List Loc) (ls : Array Slot), tw_M D vwCl mX q s.heap u z H locs → lv_has ls 4 [(0, .ref (u 0)), (1, .int x1), (2, .int x2)] → q_X13_smooth K k 0 x1 x2 x3 z = some (r, z1) → W p l e ({ frames := 5, cells := 0, slots := 0, locals := 132 } : Room) s m args below meth c H locs 0 0 QQ (F0 m 0 ls [])) ∧ (∀ (x1 : Int32) (x2 : Int32) (x3 : Int32) (z : ow_MS) (H : Heap) (locs : List Loc) (ls : Array Slot), tw_M D vwCl mX q s.heap u z H locs → lv_has ls 4 [(0, .ref (u 0)), (1, .int x1), (2, .int x2)] → q_X13_smooth K k 1 x1 x2 x3 z = some (r, z1) → W p l e ({ frames := 5, cells := 0, slots := 0, locals := 132 } : Room) s m args below meth c H locs 0 0 QQ (F0 m 45 ls [])) ∧ (∀ (x1 : Int32) (x2 : Int32) (x3 : Int32) (z : ow_MS) (H : Heap) (locs : List Loc) (ls : Array Slot), tw_M D vwCl mX q s.heap u z H locs → lv_has ls 4 [(0, .ref (u 0)), (1, .int x1), (2, .int x2), (3, .int x3)] → q_X13_smooth K k 2 x1 x2 x3 z = some (r, z1) → W p l e ({ frames := 5, cells := 0, slots := 0, locals := 132 } : Room) s m args below meth c H locs 0 0 QQ (F0 m 53 ls [])) := by
    intro k
    induction k with
    | zero => exact ⟨fun _ _ _ _ _ _ _  _ _ hq => tw_no hq, fun _ _ _ _ _ _ _  _ _ hq => tw_no hq, fun _ _ _ _ _ _ _  _ _ hq => tw_no hq⟩
    | succ k ih =>
      obtain ⟨ih_0, ih_1, ih_2⟩ := ih
      refine ⟨?_, ?_, ?_⟩
      · intro x1 x2 x3 z H locs ls  hM hl hq
        have hq : qm_X13_smooth_0 K (q_X13_smooth K k) x1 x2 x3 z = some (r, z1) := hq
        unfold qm_X13_smooth_0 at hq
        refine lv_aload_n hx hb dmX13_smooth_0 rfl (lv_at hl 0 rfl) ?_
        refine lv_iconst (v := 0) hx hb dmX13_smooth_1 (by decide) ?_
        refine mp13_1 hx hb hT hown hK hM hU hq dmX13_smooth_2 (fun z1 H locs hM hq => ?_)
        refine lv_aload_n hx hb dmX13_smooth_5 rfl (lv_at hl 0 rfl) ?_
        refine lv_iload_n hx hb dmX13_smooth_6 rfl (lv_at hl 1 rfl) ?_
        obtain ⟨v3, z2, hcq, hq⟩ := tw_cl1 hq
        refine tw_cali hM (va_runV (As := [.int x1]) (rest := []) ⟨hx, hb, hml, hown, hts⟩ (km_X13_has l D q u hU K x1 z1 z2 v3 hcq) (cwV 1 hts (tw_gV wM_good wq_127 wq_128 wq_129 wq_61 wq_90) rfl rfl rfl cd_X13_has ⟨(Nat.le_of_ble_eq_true rfl), (Nat.le_of_ble_eq_true rfl)⟩) (mw_preV hK hN hM mo_0 rfl) rfl rfl hl.1 rfl (lv_room (Nat.le_of_ble_eq_true rfl)) dmX13_smooth_7 ⟨(Nat.le_of_ble_eq_true rfl), (Nat.le_of_ble_eq_true rfl)⟩) (fun H locs hM => ?_)
        refine lv_if_ne (tgt := 19) hx hb dmX13_smooth_10 (by decide) (fun hc => ?_) (fun hc => ?_)
        · have hq := tw_if hq hc
          refine lv_aload_n hx hb dmX13_smooth_19 rfl (lv_at hl 0 rfl) ?_
          refine lv_iload_n hx hb dmX13_smooth_20 rfl (lv_at hl 1 rfl) ?_
          refine lv_aload_n hx hb dmX13_smooth_21 rfl (lv_at hl 0 rfl) ?_
          refine mg13_114 hx hb hT hown hK hM dmX13_smooth_22 ?_
          obtain ⟨z4, hcq, hq⟩ := tw_cl0 hq
          refine tw_calv hM (va_runV (As := [.int x1, .ref (u 1000)]) (rest := []) ⟨hx, hb, hml, hown, hts⟩ (km_X13_open l D q u hU K x1 1000 mw_n1 z2 z4 hcq) (cwV 2 hts (tw_gV wM_good wq_138 wq_139 wq_140 wq_61 wq_136) rfl rfl rfl cd_X13_open ⟨(Nat.le_of_ble_eq_true rfl), (Nat.le_of_ble_eq_true rfl)⟩) (mw_preV hK hN hM mo_0 rfl) rfl rfl hl.1 rfl (lv_room (Nat.le_of_ble_eq_true rfl)) dmX13_smooth_25 ⟨(Nat.le_of_ble_eq_true rfl), (Nat.le_of_ble_eq_true rfl)⟩) (fun H locs hM => ?_)
          refine lv_iload_n hx hb dmX13_smooth_28 rfl (lv_at hl 2 rfl) ?_
          refine lv_if_lt (tgt := 45) hx hb dmX13_smooth_29 (by decide) (fun hc => ?_) (fun hc => ?_)
          · have hq := tw_it hq hc
            exact ih_1 x1 x2 0 z4 H locs ls hM (lv_sub hl [0, 1, 2] rfl) hq
          · have hq := tw_if hq hc
            refine lv_iload_n hx hb dmX13_smooth_32 rfl (lv_at hl 2 rfl) ?_
            refine lv_aload_n hx hb dmX13_smooth_33 rfl (lv_at hl 0 rfl) ?_
            refine mg13_114 hx hb hT hown hK hM dmX13_smooth_34 ?_
            refine mg13_44 hx hb hT hown hK hM hN mw_n1 hq dmX13_smooth_37 (fun v5 hq => ?_)
            refine lv_iconst (v := 2) hx hb dmX13_smooth_40 (by decide) ?_
            obtain ⟨hz, hq⟩ := tw_nzI hq
            refine lv_idiv hx hb dmX13_smooth_41 hz ?_
            refine lv_icmp_lt (tgt := 51) hx hb dmX13_smooth_42 (by decide) (fun hc => ?_) (fun hc => ?_)
            · have hq := tw_it hq hc
              refine lv_iconst (v := 0) hx hb dmX13_smooth_51 (by decide) ?_
              refine lv_istore_n (lv' := [(3, .int 0), (0, .ref (u 0)), (1, .int x1), (2, .int x2)]) hx hb dmX13_smooth_52 rfl hl (by decide) rfl (fun ls hl => ?_)
              exact ih_2 x1 x2 0 z4 H locs ls hM (lv_sub hl [1, 2, 3, 0] rfl) hq
            · have hq := tw_if hq hc
              exact ih_1 x1 x2 0 z4 H locs ls hM (lv_sub hl [0, 1, 2] rfl) hq
        · have hq := tw_it hq hc
          refine lv_aload_n hx hb dmX13_smooth_13 rfl (lv_at hl 0 rfl) ?_
          refine lv_iconst (v := 1) hx hb dmX13_smooth_14 (by decide) ?_
          obtain ⟨v7, z6, hcq, hq⟩ := tw_cl1 hq
          refine tw_cali hM (va_runV (As := [.int 1]) (rest := []) ⟨hx, hb, hml, hown, hts⟩ (km_X13_fails l D q u hU K 1 z2 z6 v7 hcq) (cwV 1 hts (tw_gV wM_good wq_103 wq_104 wq_105 wq_61 wq_50) rfl rfl rfl cd_X13_fails ⟨(Nat.le_of_ble_eq_true rfl), (Nat.le_of_ble_eq_true rfl)⟩) (mw_preV hK hN hM mo_0 rfl) rfl rfl hl.1 rfl (lv_room (Nat.le_of_ble_eq_true rfl)) dmX13_smooth_15 ⟨(Nat.le_of_ble_eq_true rfl), (Nat.le_of_ble_eq_true rfl)⟩) (fun H locs hM => ?_)
          exact mw_iret hx hb hr hlocks hM hq hQQ dmX13_smooth_18
      · intro x1 x2 x3 z H locs ls  hM hl hq
        have hq : qm_X13_smooth_1 K (q_X13_smooth K k) x1 x2 x3 z = some (r, z1) := hq
        unfold qm_X13_smooth_1 at hq
        refine lv_aload_n hx hb dmX13_smooth_45 rfl (lv_at hl 0 rfl) ?_
        refine lv_iconst (v := 1) hx hb dmX13_smooth_46 (by decide) ?_
        obtain ⟨v9, z8, hcq, hq⟩ := tw_cl1 hq
        refine tw_cali hM (va_runV (As := [.int 1]) (rest := []) ⟨hx, hb, hml, hown, hts⟩ (km_X13_fails l D q u hU K 1 z z8 v9 hcq) (cwV 1 hts (tw_gV wM_good wq_103 wq_104 wq_105 wq_61 wq_50) rfl rfl rfl cd_X13_fails ⟨(Nat.le_of_ble_eq_true rfl), (Nat.le_of_ble_eq_true rfl)⟩) (mw_preV hK hN hM mo_0 rfl) rfl rfl hl.1 rfl (lv_room (Nat.le_of_ble_eq_true rfl)) dmX13_smooth_47 ⟨(Nat.le_of_ble_eq_true rfl), (Nat.le_of_ble_eq_true rfl)⟩) (fun H locs hM => ?_)
        exact mw_iret hx hb hr hlocks hM hq hQQ dmX13_smooth_50
      · intro x1 x2 x3 z H locs ls  hM hl hq
        have hq : qm_X13_smooth_2 K (q_X13_smooth K k) x1 x2 x3 z = some (r, z1) := hq
        unfold qm_X13_smooth_2 at hq
        refine lv_aload_n hx hb dmX13_smooth_53 rfl (lv_at hl 0 rfl) ?_
        refine mg13_114 hx hb hT hown hK hM dmX13_smooth_54 ?_
        refine mg13_23 hx hb hT hown hK hM hN mw_n1 dmX13_smooth_57 ?_
        refine lv_iload_n hx hb dmX13_smooth_60 rfl (lv_at hl 3 rfl) ?_
        refine tw_iald mX_ok hx hb hK hM (mrn_4 mw_n1) hq dmX13_smooth_61 (fun v10 hq => ?_)
        refine lv_iload_n hx hb dmX13_smooth_62 rfl (lv_at hl 2 rfl) ?_
        refine lv_icmp_eq (tgt := 72) hx hb dmX13_smooth_63 (by decide) (fun hc => ?_) (fun hc => ?_)
        · have hq := tw_it hq hc
          refine lv_aload_n hx hb dmX13_smooth_72 rfl (lv_at hl 0 rfl) ?_
          refine mg13_114 hx hb hT hown hK hM dmX13_smooth_73 ?_
          refine lv_aload_n hx hb dmX13_smooth_76 rfl (lv_at hl 0 rfl) ?_
          refine mg13_114 hx hb hT hown hK hM dmX13_smooth_77 ?_
          refine mg13_18 hx hb hT hown hK hM hN mw_n1 dmX13_smooth_80 ?_
          refine lv_iload_n hx hb dmX13_smooth_83 rfl (lv_at hl 3 rfl) ?_
          refine tw_iald mX_ok hx hb hK hM (mrn_8 mw_n1) hq dmX13_smooth_84 (fun v11 hq => ?_)
          refine lv_iload_n hx hb dmX13_smooth_85 rfl (lv_at hl 3 rfl) ?_
          refine lv_aload_n hx hb dmX13_smooth_86 rfl (lv_at hl 0 rfl) ?_
          refine mg13_114 hx hb hT hown hK hM dmX13_smooth_87 ?_
          refine mg13_41 hx hb hT hown hK hM hN mw_n1 dmX13_smooth_90 ?_
          refine lv_iload_n hx hb dmX13_smooth_93 rfl (lv_at hl 3 rfl) ?_
          refine tw_iald mX_ok hx hb hK hM (mrn_7 mw_n1) hq dmX13_smooth_94 (fun v12 hq => ?_)
          refine lv_aload_n hx hb dmX13_smooth_95 rfl (lv_at hl 0 rfl) ?_
          refine mg13_121 hx hb hT hown hK hM dmX13_smooth_96 ?_
          obtain ⟨z13, hcq, hq⟩ := tw_cl0 hq
          refine tw_calv hM (va_runS (As := [.ref (u 1000), .int v11, .int x3, .int v12, .ref (u 3000)]) (rest := []) ⟨hx, hb, hml, hown, hts⟩ (km_X13_smoothIn l D q u hU K 1000 v11 x3 v12 3000 mw_n1 mw_n3 z z13 hcq) (va_cwS 5 hts (tw_gS wM_good wq_160 wq_161 wq_61 wq_159) rfl rfl rfl cd_X13_smoothIn ⟨(Nat.le_of_ble_eq_true rfl), (Nat.le_of_ble_eq_true rfl)⟩) (mw_preS hK hN hM) rfl rfl hl.1 rfl (lv_room (Nat.le_of_ble_eq_true rfl)) dmX13_smooth_99 ⟨(Nat.le_of_ble_eq_true rfl), (Nat.le_of_ble_eq_true rfl)⟩) (fun H locs hM => ?_)
          refine lv_aload_n hx hb dmX13_smooth_102 rfl (lv_at hl 0 rfl) ?_
          refine mg13_121 hx hb hT hown hK hM dmX13_smooth_103 ?_
          refine mg13_407 hx hb hT hown hK hM hN mw_n3 hq dmX13_smooth_106 (fun v14 hq => ?_)
          refine lv_bipush (v := 6) hx hb dmX13_smooth_109 (by decide) ?_
          refine lv_icmp_le (tgt := 120) hx hb dmX13_smooth_111 (by decide) (fun hc => ?_) (fun hc => ?_)
          · have hq := tw_it hq hc
            refine lv_aload_n hx hb dmX13_smooth_120 rfl (lv_at hl 0 rfl) ?_
            obtain ⟨v16, z15, hcq, hq⟩ := tw_cl1 hq
            refine tw_cali hM (va_runV (As := []) (rest := []) ⟨hx, hb, hml, hown, hts⟩ (km_X13_free l D q u hU K z13 z15 v16 hcq) (cwV 0 hts (tw_gV wM_good wq_93 wq_94 wq_95 wq_61 wq_91) rfl rfl rfl cd_X13_free ⟨(Nat.le_of_ble_eq_true rfl), (Nat.le_of_ble_eq_true rfl)⟩) (mw_preV hK hN hM mo_0 rfl) rfl rfl hl.1 rfl (lv_room (Nat.le_of_ble_eq_true rfl)) dmX13_smooth_121 ⟨(Nat.le_of_ble_eq_true rfl), (Nat.le_of_ble_eq_true rfl)⟩) (fun H locs hM => ?_)
            refine lv_iconst (v := (-1)) hx hb dmX13_smooth_124 (by decide) ?_
            refine lv_icmp_ne (tgt := 134) hx hb dmX13_smooth_125 (by decide) (fun hc => ?_) (fun hc => ?_)
            · have hq := tw_if hq hc
              refine lv_aload_n hx hb dmX13_smooth_134 rfl (lv_at hl 0 rfl) ?_
              obtain ⟨v18, z17, hcq, hq⟩ := tw_cl1 hq
              refine tw_cali hM (va_runV (As := []) (rest := []) ⟨hx, hb, hml, hown, hts⟩ (km_X13_keep l D q u hU K z15 z17 v18 hcq) (cwV 0 hts (tw_gV wM_good wq_123 wq_124 wq_125 wq_61 wq_99) rfl rfl rfl cd_X13_keep ⟨(Nat.le_of_ble_eq_true rfl), (Nat.le_of_ble_eq_true rfl)⟩) (mw_preV hK hN hM mo_0 rfl) rfl rfl hl.1 rfl (lv_room (Nat.le_of_ble_eq_true rfl)) dmX13_smooth_135 ⟨(Nat.le_of_ble_eq_true rfl), (Nat.le_of_ble_eq_true rfl)⟩) (fun H locs hM => ?_)
              exact mw_iret hx hb hr hlocks hM hq hQQ dmX13_smooth_138
            · have hq := tw_it hq hc
              refine lv_aload_n hx hb dmX13_smooth_128 rfl (lv_at hl 0 rfl) ?_
              refine lv_iconst (v := 3) hx hb dmX13_smooth_129 (by decide) ?_
              obtain ⟨v20, z19, hcq, hq⟩ := tw_cl1 hq
              refine tw_cali hM (va_runV (As := [.int 3]) (rest := []) ⟨hx, hb, hml, hown, hts⟩ (km_X13_fails l D q u hU K 3 z15 z19 v20 hcq) (cwV 1 hts (tw_gV wM_good wq_103 wq_104 wq_105 wq_61 wq_50) rfl rfl rfl cd_X13_fails ⟨(Nat.le_of_ble_eq_true rfl), (Nat.le_of_ble_eq_true rfl)⟩) (mw_preV hK hN hM mo_0 rfl) rfl rfl hl.1 rfl (lv_room (Nat.le_of_ble_eq_true rfl)) dmX13_smooth_130 ⟨(Nat.le_of_ble_eq_true rfl), (Nat.le_of_ble_eq_true rfl)⟩) (fun H locs hM => ?_)
              exact mw_iret hx hb hr hlocks hM hq hQQ dmX13_smooth_133
          · have hq := tw_if hq hc
            refine lv_aload_n hx hb dmX13_smooth_114 rfl (lv_at hl 0 rfl) ?_
            refine lv_iconst (v := 2) hx hb dmX13_smooth_115 (by decide) ?_
            obtain ⟨v22, z21, hcq, hq⟩ := tw_cl1 hq
            refine tw_cali hM (va_runV (As := [.int 2]) (rest := []) ⟨hx, hb, hml, hown, hts⟩ (km_X13_fails l D q u hU K 2 z13 z21 v22 hcq) (cwV 1 hts (tw_gV wM_good wq_103 wq_104 wq_105 wq_61 wq_50) rfl rfl rfl cd_X13_fails ⟨(Nat.le_of_ble_eq_true rfl), (Nat.le_of_ble_eq_true rfl)⟩) (mw_preV hK hN hM mo_0 rfl) rfl rfl hl.1 rfl (lv_room (Nat.le_of_ble_eq_true rfl)) dmX13_smooth_116 ⟨(Nat.le_of_ble_eq_true rfl), (Nat.le_of_ble_eq_true rfl)⟩) (fun H locs hM => ?_)
            exact mw_iret hx hb hr hlocks hM hq hQQ dmX13_smooth_119
        · have hq := tw_if hq hc
          refine lv_iinc (v := (x3 + 1)) (lv' := [(3, .int (x3 + 1)), (0, .ref (u 0)), (1, .int x1), (2, .int x2)]) hx hb dmX13_smooth_66 hl (k := 3) rfl rfl (by decide) rfl (fun ls hl => ?_)
          refine lv_goto (tgt := 53) hx hb dmX13_smooth_69 (by decide) ?_
          exact ih_2 x1 x2 (x3 + 1) z H locs ls hM (lv_sub hl [1, 2, 3, 0] rfl) hq
  exact (key K).1 x1 x2 0 z s.heap [] ls  hM (lv_sub hl [0, 1, 2] rfl) hq
theorem dmX13_addNet_0 : decode cX13_addNet 0 = .ok (.iconst 0, 1) := dw_at cX13_addNet_k0 (p := 0) rfl (by decide +kernel)
theorem dmX13_addNet_1 : decode cX13_addNet 1 = .ok (.istore_n 3, 1) := dw_at cX13_addNet_k0 (p := 1) rfl (by decide +kernel)
theorem dmX13_addNet_2 : decode cX13_addNet 2 = .ok (.iload_n 3, 1) := dw_at cX13_addNet_k0 (p := 2) rfl (by decide +kernel)
theorem dmX13_addNet_3 : decode cX13_addNet 3 = .ok (.aload_n 1, 1) := dw_at cX13_addNet_k0 (p := 3) rfl (by decide +kernel)
theorem dmX13_addNet_4 : decode cX13_addNet 4 = .ok (.getfield 407, 3) := dw_at cX13_addNet_k0 (p := 4) rfl (by decide +kernel)
theorem dmX13_addNet_7 : decode cX13_addNet 7 = .ok (.if_icmp .ge 66, 3) := dw_at cX13_addNet_k0 (p := 7) rfl (by decide +kernel)
theorem dmX13_addNet_10 : decode cX13_addNet 10 = .ok (.aload_n 1, 1) := dw_at cX13_addNet_k0 (p := 10) rfl (by decide +kernel)
theorem dmX13_addNet_11 : decode cX13_addNet 11 = .ok (.getfield 452, 3) := dw_at cX13_addNet_k0 (p := 11) rfl (by decide +kernel)
theorem dmX13_addNet_14 : decode cX13_addNet 14 = .ok (.iload_n 3, 1) := dw_at cX13_addNet_k0 (p := 14) rfl (by decide +kernel)
theorem dmX13_addNet_15 : decode cX13_addNet 15 = .ok (.iaload, 1) := dw_at cX13_addNet_k0 (p := 15) rfl (by decide +kernel)
theorem dmX13_addNet_16 : decode cX13_addNet 16 = .ok (.istore 4, 2) := dw_at cX13_addNet_k0 (p := 16) rfl (by decide +kernel)
theorem dmX13_addNet_18 : decode cX13_addNet 18 = .ok (.iload 4, 2) := dw_at cX13_addNet_k0 (p := 18) rfl (by decide +kernel)
theorem dmX13_addNet_20 : decode cX13_addNet 20 = .ok (.aload_n 1, 1) := dw_at cX13_addNet_k0 (p := 20) rfl (by decide +kernel)
theorem dmX13_addNet_21 : decode cX13_addNet 21 = .ok (.getfield 452, 3) := dw_at cX13_addNet_k0 (p := 21) rfl (by decide +kernel)
theorem dmX13_addNet_24 : decode cX13_addNet 24 = .ok (.iload_n 3, 1) := dw_at cX13_addNet_k1 (p := 0) rfl (by decide +kernel)
theorem dmX13_addNet_25 : decode cX13_addNet 25 = .ok (.iconst 1, 1) := dw_at cX13_addNet_k1 (p := 1) rfl (by decide +kernel)
theorem dmX13_addNet_26 : decode cX13_addNet 26 = .ok (.iadd, 1) := dw_at cX13_addNet_k1 (p := 2) rfl (by decide +kernel)
theorem dmX13_addNet_27 : decode cX13_addNet 27 = .ok (.iaload, 1) := dw_at cX13_addNet_k1 (p := 3) rfl (by decide +kernel)
theorem dmX13_addNet_28 : decode cX13_addNet 28 = .ok (.if_icmp .ge 32, 3) := dw_at cX13_addNet_k1 (p := 4) rfl (by decide +kernel)
theorem dmX13_addNet_31 : decode cX13_addNet 31 = .ok (.aload_n 0, 1) := dw_at cX13_addNet_k1 (p := 7) rfl (by decide +kernel)
theorem dmX13_addNet_32 : decode cX13_addNet 32 = .ok (.getfield 121, 3) := dw_at cX13_addNet_k1 (p := 8) rfl (by decide +kernel)
theorem dmX13_addNet_35 : decode cX13_addNet 35 = .ok (.aload_n 1, 1) := dw_at cX13_addNet_k1 (p := 11) rfl (by decide +kernel)
theorem dmX13_addNet_36 : decode cX13_addNet 36 = .ok (.getfield 23, 3) := dw_at cX13_addNet_k1 (p := 12) rfl (by decide +kernel)
theorem dmX13_addNet_39 : decode cX13_addNet 39 = .ok (.iload 4, 2) := dw_at cX13_addNet_k1 (p := 15) rfl (by decide +kernel)
theorem dmX13_addNet_41 : decode cX13_addNet 41 = .ok (.iaload, 1) := dw_at cX13_addNet_k1 (p := 17) rfl (by decide +kernel)
theorem dmX13_addNet_42 : decode cX13_addNet 42 = .ok (.iload_n 2, 1) := dw_at cX13_addNet_k1 (p := 18) rfl (by decide +kernel)
theorem dmX13_addNet_43 : decode cX13_addNet 43 = .ok (.iadd, 1) := dw_at cX13_addNet_k1 (p := 19) rfl (by decide +kernel)
theorem dmX13_addNet_44 : decode cX13_addNet 44 = .ok (.aload_n 1, 1) := dw_at cX13_addNet_k1 (p := 20) rfl (by decide +kernel)
theorem dmX13_addNet_45 : decode cX13_addNet 45 = .ok (.getfield 32, 3) := dw_at cX13_addNet_k1 (p := 21) rfl (by decide +kernel)
theorem dmX13_addNet_48 : decode cX13_addNet 48 = .ok (.iload 4, 2) := dw_at cX13_addNet_k2 (p := 0) rfl (by decide +kernel)
theorem dmX13_addNet_50 : decode cX13_addNet 50 = .ok (.iaload, 1) := dw_at cX13_addNet_k2 (p := 2) rfl (by decide +kernel)
theorem dmX13_addNet_51 : decode cX13_addNet 51 = .ok (.invokevirtual 97, 3) := dw_at cX13_addNet_k2 (p := 3) rfl (by decide +kernel)
theorem dmX13_addNet_54 : decode cX13_addNet 54 = .ok (.iinc 4 1, 3) := dw_at cX13_addNet_k2 (p := 6) rfl (by decide +kernel)
theorem dmX13_addNet_57 : decode cX13_addNet 57 = .ok (.goto (-39), 3) := dw_at cX13_addNet_k2 (p := 9) rfl (by decide +kernel)
theorem dmX13_addNet_60 : decode cX13_addNet 60 = .ok (.aload_n 0, 1) := dw_at cX13_addNet_k2 (p := 12) rfl (by decide +kernel)
theorem dmX13_addNet_61 : decode cX13_addNet 61 = .ok (.getfield 121, 3) := dw_at cX13_addNet_k2 (p := 13) rfl (by decide +kernel)
theorem dmX13_addNet_64 : decode cX13_addNet 64 = .ok (.invokevirtual 94, 3) := dw_at cX13_addNet_k2 (p := 16) rfl (by decide +kernel)
theorem dmX13_addNet_67 : decode cX13_addNet 67 = .ok (.iinc 3 1, 3) := dw_at cX13_addNet_k2 (p := 19) rfl (by decide +kernel)
theorem dmX13_addNet_70 : decode cX13_addNet 70 = .ok (.goto (-68), 3) := dw_at cX13_addNet_k2 (p := 22) rfl (by decide +kernel)
theorem dmX13_addNet_73 : decode cX13_addNet 73 = .ok (.iconst 0, 1) := dw_at cX13_addNet_k3 (p := 0) rfl (by decide +kernel)
theorem dmX13_addNet_74 : decode cX13_addNet 74 = .ok (.istore_n 3, 1) := dw_at cX13_addNet_k3 (p := 1) rfl (by decide +kernel)
theorem dmX13_addNet_75 : decode cX13_addNet 75 = .ok (.iload_n 3, 1) := dw_at cX13_addNet_k3 (p := 2) rfl (by decide +kernel)
theorem dmX13_addNet_76 : decode cX13_addNet 76 = .ok (.aload_n 1, 1) := dw_at cX13_addNet_k3 (p := 3) rfl (by decide +kernel)
theorem dmX13_addNet_77 : decode cX13_addNet 77 = .ok (.getfield 44, 3) := dw_at cX13_addNet_k3 (p := 4) rfl (by decide +kernel)
theorem dmX13_addNet_80 : decode cX13_addNet 80 = .ok (.iconst 2, 1) := dw_at cX13_addNet_k3 (p := 7) rfl (by decide +kernel)
theorem dmX13_addNet_81 : decode cX13_addNet 81 = .ok (.idiv, 1) := dw_at cX13_addNet_k3 (p := 8) rfl (by decide +kernel)
theorem dmX13_addNet_82 : decode cX13_addNet 82 = .ok (.if_icmp .ge 26, 3) := dw_at cX13_addNet_k3 (p := 9) rfl (by decide +kernel)
theorem dmX13_addNet_85 : decode cX13_addNet 85 = .ok (.aload_n 0, 1) := dw_at cX13_addNet_k3 (p := 12) rfl (by decide +kernel)
theorem dmX13_addNet_86 : decode cX13_addNet 86 = .ok (.getfield 121, 3) := dw_at cX13_addNet_k3 (p := 13) rfl (by decide +kernel)
theorem dmX13_addNet_89 : decode cX13_addNet 89 = .ok (.getfield 35, 3) := dw_at cX13_addNet_k3 (p := 16) rfl (by decide +kernel)
theorem dmX13_addNet_92 : decode cX13_addNet 92 = .ok (.iload_n 3, 1) := dw_at cX13_addNet_k3 (p := 19) rfl (by decide +kernel)
theorem dmX13_addNet_93 : decode cX13_addNet 93 = .ok (.iload_n 2, 1) := dw_at cX13_addNet_k3 (p := 20) rfl (by decide +kernel)
theorem dmX13_addNet_94 : decode cX13_addNet 94 = .ok (.iadd, 1) := dw_at cX13_addNet_k3 (p := 21) rfl (by decide +kernel)
theorem dmX13_addNet_95 : decode cX13_addNet 95 = .ok (.aload_n 1, 1) := dw_at cX13_addNet_k3 (p := 22) rfl (by decide +kernel)
theorem dmX13_addNet_96 : decode cX13_addNet 96 = .ok (.getfield 35, 3) := dw_at cX13_addNet_k3 (p := 23) rfl (by decide +kernel)
theorem dmX13_addNet_99 : decode cX13_addNet 99 = .ok (.iload_n 3, 1) := dw_at cX13_addNet_k4 (p := 0) rfl (by decide +kernel)
theorem dmX13_addNet_100 : decode cX13_addNet 100 = .ok (.iaload, 1) := dw_at cX13_addNet_k4 (p := 1) rfl (by decide +kernel)
theorem dmX13_addNet_101 : decode cX13_addNet 101 = .ok (.iastore, 1) := dw_at cX13_addNet_k4 (p := 2) rfl (by decide +kernel)
theorem dmX13_addNet_102 : decode cX13_addNet 102 = .ok (.iinc 3 1, 3) := dw_at cX13_addNet_k4 (p := 3) rfl (by decide +kernel)
theorem dmX13_addNet_105 : decode cX13_addNet 105 = .ok (.goto (-30), 3) := dw_at cX13_addNet_k4 (p := 6) rfl (by decide +kernel)
theorem dmX13_addNet_108 : decode cX13_addNet 108 = .ok (.return_, 1) := dw_at cX13_addNet_k4 (p := 9) rfl (by decide +kernel)
def qm_X13_addNet_0 (K : Nat) (go : Nat → Int32 → Int32 → Int32 → Nat → ow_MS → Option ow_MS) (x2 : Int32) (x3 : Int32) (x4 : Int32) (r1 : Nat) (z : ow_MS) : Option ow_MS :=
 go 1 x2 0 0 r1 z
def qm_X13_addNet_1 (K : Nat) (go : Nat → Int32 → Int32 → Int32 → Nat → ow_MS → Option ow_MS) (x2 : Int32) (x3 : Int32) (x4 : Int32) (r1 : Nat) (z : ow_MS) : Option ow_MS :=
 rdF z (r1 + 2) fun v1 => (if v1 ≤ x3 then go 3 x2 0 0 r1 z
 else rdI mX z (r1 + 3) x3 fun v2 => go 2 x2 x3 v2 r1 z)
def qm_X13_addNet_2 (K : Nat) (go : Nat → Int32 → Int32 → Int32 → Nat → ow_MS → Option ow_MS) (x2 : Int32) (x3 : Int32) (x4 : Int32) (r1 : Nat) (z : ow_MS) : Option ow_MS :=
 rdI mX z (r1 + 3) (x3 + 1) fun v3 => (if v3 ≤ x4 then cs0 (qe_X12_end K 3000 z) fun z4 => go 1 x2 (x3 + 1) 0 r1 z4
 else rdI mX z (r1 + 4) x4 fun v5 => rdI mX z (r1 + 5) x4 fun v6 => cs0 (qe_X12_add K 3000 (v5 + x2) v6 z) fun z7 => go 2 x2 x3 (x4 + 1) r1 z7)
def qm_X13_addNet_3 (K : Nat) (go : Nat → Int32 → Int32 → Int32 → Nat → ow_MS → Option ow_MS) (x2 : Int32) (x3 : Int32) (x4 : Int32) (r1 : Nat) (z : ow_MS) : Option ow_MS :=
 rdF z (r1 + 1) fun v8 => nzI 2 ((if (v8 / 2) ≤ x3 then some z
 else rdI mX z (r1 + 6) x3 fun v9 => wrI mX z (3000 + 6) (x3 + x2) v9 fun z10 => go 3 x2 (x3 + 1) 0 r1 z10))
def qb_X13_addNet (K : Nat) (go : Nat → Int32 → Int32 → Int32 → Nat → ow_MS → Option ow_MS) (L : Nat) (x2 : Int32) (x3 : Int32) (x4 : Int32) (r1 : Nat) (z : ow_MS) : Option ow_MS := match L with
  | 0 => qm_X13_addNet_0 K go x2 x3 x4 r1 z
  | 1 => qm_X13_addNet_1 K go x2 x3 x4 r1 z
  | 2 => qm_X13_addNet_2 K go x2 x3 x4 r1 z
  | 3 => qm_X13_addNet_3 K go x2 x3 x4 r1 z
  | _ => none
def q_X13_addNet (K : Nat) : Nat → Nat → Int32 → Int32 → Int32 → Nat → ow_MS → Option ow_MS
  | 0 => fun _ _ _ _ _ _ => none
  | k + 1 => qb_X13_addNet K (q_X13_addNet K k)
def qe_X13_addNet (K : Nat) (r1 : Nat) (x2 : Int32) (z : ow_MS) : Option ow_MS := q_X13_addNet K K 0 x2 0 0 r1 z
abbrev wm_X13_addNet : List Cond := .code yX13_addNet cX13_addNet 5 none :: wM
theorem cd_X13_addNet : yX13_addNet.cls = RX13 ∧ yX13_addNet.cls ≠ "java/lang/invoke/MethodHandle" ∧ yX13_addNet.cls ≠ "java/lang/invoke/VarHandle" ∧ (parseMethodDescriptor yX13_addNet.desc).map (fun d => d.parameters.length) = some 2 := by decide +kernel
set_option maxHeartbeats 4000000 in
set_option maxRecDepth 100000 in
theorem km_X13_addNet (l : Launch) (D : va_G) (q : ow_Q5) (u : Nat → Nat) (hU : tw_inj mX u) (K : Nat) (r1 : Nat) (x2 : Int32) (hr1 : mw_net r1) (z z1 : ow_MS) (hq : qe_X13_addNet K r1 x2 z = some z1) : Met l yX13_addNet wm_X13_addNet ({ frames := 1, cells := 0, slots := 0, locals := 22 } : Room) (va_Pc [.ref (u 0), .ref (u r1), .int x2] (mw_pre D q u z)) (va_Qv (fun (_ : Unit) => True) (fun _ t => va_P D vwCl (tw mX q u z1) t.heap) (tw_A mX u)) 0 0 (tw_A mX u) := by
  refine Met.ofW (cc := cX13_addNet) (maxL := 5) (ret := none) (by decide) rfl ?_
  intro p e s m args below meth c s₁ B hml hv
  obtain ⟨rfl, hP, hK, hN⟩ := hv
  have hx := B.exec
  have hb := B.bytes
  have hr := B.returns
  have hts := atoms_spec (ws := wm_X13_addNet) B.pre
  have hT : ∀ w ∈ wM, w.before ([.ref (u 0), .ref (u r1), .int x2] : List Value).toArray s = true := fun w h => hts w (List.mem_cons_of_mem _ h)
  have hown : s.vm.findClass RX13 = some m.cls := findClass_of_methodNamed B.named
  have hlocks := B.notSynchronized
  have hM : tw_M D vwCl mX q s.heap u z s.heap [] := ⟨hP, va_S.rf⟩
  have hl := lv_entry ([.ref (u 0), .ref (u r1), .int x2]) (n := 5) (Nat.le_of_ble_eq_true rfl)
  rw [lg_entry_eq]
  generalize (lg_sl ([.ref (u 0), .ref (u r1), .int x2]) ++ List.replicate (5 - (lg_sl ([.ref (u 0), .ref (u r1), .int x2])).length) Slot.unset).toArray = ls at hl ⊢
  have hl : lv_has ls 5 [(0, .ref (u 0)), (1, .ref (u r1)), (2, .int x2)] := hl
  refine ow_named (fun QQ hQQ => ?_)
  generalize ([.ref (u 0), .ref (u r1), .int x2] : List Value).toArray = args at hts hT hQQ ⊢
  have key : ∀ k : Nat, (∀ (x2 : Int32) (x3 : Int32) (x4 : Int32) (r1 : Nat) (z : ow_MS) (H : Heap) (locs : List Loc) (ls : Array Slot), mw_net r1 → tw_M D vwCl mX q s.heap u z H locs → lv_has ls 5 [(0, .ref (u 0)), (1, .ref (u r1)), (2, .int x2)] → q_X13_addNet K k 0 x2 x3 x4 r1 z = some z1 → W p l e ({ frames := 1, cells := 0, slots := 0, locals := 22 } : Room) s m args below meth c H locs 0 0 QQ (F0 m 0 ls [])) ∧ (∀ (x2 : Int32) (x3 : Int32) (x4 : Int32) (r1 : Nat) (z : ow_MS) (H : Heap) (locs : List Loc) (ls : Array Slot), mw_net r1 → tw_M D vwCl mX q s.heap u z H locs → lv_has ls 5 [(0, .ref (u 0)), (1, .ref (u r1)), (2, .int x2), (3, .int x3)] → q_X13_addNet K k 1 x2 x3 x4 r1 z = some z1 → W p l e ({ frames := 1, cells := 0, slots := 0, locals := 22 } : Room) s m args below meth c H locs 0 0 QQ (F0 m 2 ls [])) ∧ (∀ (x2 : Int32) (x3 : Int32) (x4 : Int32) (r1 : Nat) (z : ow_MS) (H : Heap) (locs : List Loc) (ls : Array Slot), mw_net r1 → tw_M D vwCl mX q s.heap u z H locs → lv_has ls 5 [(0, .ref (u 0)), (1, .ref (u r1)), (2, .int x2), (3, .int x3), (4, .int x4)] → q_X13_addNet K k 2 x2 x3 x4 r1 z = some z1 → W p l e ({ frames := 1, cells := 0, slots := 0, locals := 22 } : Room) s m args below meth c H locs 0 0 QQ (F0 m 18 ls [])) ∧ (∀ (x2 : Int32) (x3 : Int32) (x4 : Int32) (r1 : Nat) (z : ow_MS) (H : Heap) (locs : List Loc) (ls : Array Slot), mw_net r1 → tw_M D vwCl mX q s.heap u z H locs → lv_has ls 5 [(0, .ref (u 0)), (1, .ref (u r1)), (2, .int x2), (3, .int x3)] → q_X13_addNet K k 3 x2 x3 x4 r1 z = some z1 → W p l e ({ frames := 1, cells := 0, slots := 0, locals := 22 } : Room) s m args below meth c H locs 0 0 QQ (F0 m 75 ls [])) := by
    intro k
    induction k with
    | zero => exact ⟨fun _ _ _ _ _ _ _ _ _ _ _ hq => tw_no hq, fun _ _ _ _ _ _ _ _ _ _ _ hq => tw_no hq, fun _ _ _ _ _ _ _ _ _ _ _ hq => tw_no hq, fun _ _ _ _ _ _ _ _ _ _ _ hq => tw_no hq⟩
    | succ k ih =>
      obtain ⟨ih_0, ih_1, ih_2, ih_3⟩ := ih
      refine ⟨?_, ?_, ?_, ?_⟩
      · intro x2 x3 x4 r1 z H locs ls hr1 hM hl hq
        have hq : qm_X13_addNet_0 K (q_X13_addNet K k) x2 x3 x4 r1 z = some z1 := hq
        unfold qm_X13_addNet_0 at hq
        refine lv_iconst (v := 0) hx hb dmX13_addNet_0 (by decide) ?_
        refine lv_istore_n (lv' := [(3, .int 0), (0, .ref (u 0)), (1, .ref (u r1)), (2, .int x2)]) hx hb dmX13_addNet_1 rfl hl (by decide) rfl (fun ls hl => ?_)
        exact ih_1 x2 0 0 r1 z H locs ls hr1 hM (lv_sub hl [1, 2, 3, 0] rfl) hq
      · intro x2 x3 x4 r1 z H locs ls hr1 hM hl hq
        have hq : qm_X13_addNet_1 K (q_X13_addNet K k) x2 x3 x4 r1 z = some z1 := hq
        unfold qm_X13_addNet_1 at hq
        refine lv_iload_n hx hb dmX13_addNet_2 rfl (lv_at hl 3 rfl) ?_
        refine lv_aload_n hx hb dmX13_addNet_3 rfl (lv_at hl 1 rfl) ?_
        refine mg13_407 hx hb hT hown hK hM hN hr1 hq dmX13_addNet_4 (fun v1 hq => ?_)
        refine lv_icmp_ge (tgt := 73) hx hb dmX13_addNet_7 (by decide) (fun hc => ?_) (fun hc => ?_)
        · have hq := tw_it hq hc
          refine lv_iconst (v := 0) hx hb dmX13_addNet_73 (by decide) ?_
          refine lv_istore_n (lv' := [(3, .int 0), (0, .ref (u 0)), (1, .ref (u r1)), (2, .int x2)]) hx hb dmX13_addNet_74 rfl hl (by decide) rfl (fun ls hl => ?_)
          exact ih_3 x2 0 0 r1 z H locs ls hr1 hM (lv_sub hl [1, 2, 3, 0] rfl) hq
        · have hq := tw_if hq hc
          refine lv_aload_n hx hb dmX13_addNet_10 rfl (lv_at hl 1 rfl) ?_
          refine mg13_452 hx hb hT hown hK hM hN hr1 dmX13_addNet_11 ?_
          refine lv_iload_n hx hb dmX13_addNet_14 rfl (lv_at hl 3 rfl) ?_
          refine tw_iald mX_ok hx hb hK hM (mrn_3 hr1) hq dmX13_addNet_15 (fun v2 hq => ?_)
          refine lv_istore (lv' := [(4, .int v2), (0, .ref (u 0)), (1, .ref (u r1)), (2, .int x2), (3, .int x3)]) hx hb dmX13_addNet_16 hl (by decide) rfl (fun ls hl => ?_)
          exact ih_2 x2 x3 v2 r1 z H locs ls hr1 hM (lv_sub hl [1, 2, 3, 4, 0] rfl) hq
      · intro x2 x3 x4 r1 z H locs ls hr1 hM hl hq
        have hq : qm_X13_addNet_2 K (q_X13_addNet K k) x2 x3 x4 r1 z = some z1 := hq
        unfold qm_X13_addNet_2 at hq
        refine lv_iload hx hb dmX13_addNet_18 (lv_at hl 4 rfl) ?_
        refine lv_aload_n hx hb dmX13_addNet_20 rfl (lv_at hl 1 rfl) ?_
        refine mg13_452 hx hb hT hown hK hM hN hr1 dmX13_addNet_21 ?_
        refine lv_iload_n hx hb dmX13_addNet_24 rfl (lv_at hl 3 rfl) ?_
        refine lv_iconst (v := 1) hx hb dmX13_addNet_25 (by decide) ?_
        refine lv_iadd hx hb dmX13_addNet_26 ?_
        refine tw_iald mX_ok hx hb hK hM (mrn_3 hr1) hq dmX13_addNet_27 (fun v3 hq => ?_)
        refine lv_icmp_ge (tgt := 60) hx hb dmX13_addNet_28 (by decide) (fun hc => ?_) (fun hc => ?_)
        · have hq := tw_it hq hc
          refine lv_aload_n hx hb dmX13_addNet_60 rfl (lv_at hl 0 rfl) ?_
          refine mg13_121 hx hb hT hown hK hM dmX13_addNet_61 ?_
          obtain ⟨z4, hcq, hq⟩ := tw_cl0 hq
          refine tw_calv hM (va_runV (As := []) (rest := []) ⟨hx, hb, hml, hown, hts⟩ (km_X12_end l D q u hU K 3000 mw_n3 z z4 hcq) (cwV 0 hts (tw_gV wM_good wq_86 wq_18 wq_19 wq_13 wq_7) rfl rfl rfl cd_X12_end ⟨(Nat.le_of_ble_eq_true rfl), (Nat.le_of_ble_eq_true rfl)⟩) (mw_preV hK hN hM (mo_n mw_n3) rfl) rfl rfl hl.1 rfl (lv_room (Nat.le_of_ble_eq_true rfl)) dmX13_addNet_64 ⟨(Nat.le_of_ble_eq_true rfl), (Nat.le_of_ble_eq_true rfl)⟩) (fun H locs hM => ?_)
          refine lv_iinc (v := (x3 + 1)) (lv' := [(3, .int (x3 + 1)), (0, .ref (u 0)), (1, .ref (u r1)), (2, .int x2), (4, .int x4)]) hx hb dmX13_addNet_67 hl (k := 3) rfl rfl (by decide) rfl (fun ls hl => ?_)
          refine lv_goto (tgt := 2) hx hb dmX13_addNet_70 (by decide) ?_
          exact ih_1 x2 (x3 + 1) 0 r1 z4 H locs ls hr1 hM (lv_sub hl [1, 2, 3, 0] rfl) hq
        · have hq := tw_if hq hc
          refine lv_aload_n hx hb dmX13_addNet_31 rfl (lv_at hl 0 rfl) ?_
          refine mg13_121 hx hb hT hown hK hM dmX13_addNet_32 ?_
          refine lv_aload_n hx hb dmX13_addNet_35 rfl (lv_at hl 1 rfl) ?_
          refine mg13_23 hx hb hT hown hK hM hN hr1 dmX13_addNet_36 ?_
          refine lv_iload hx hb dmX13_addNet_39 (lv_at hl 4 rfl) ?_
          refine tw_iald mX_ok hx hb hK hM (mrn_4 hr1) hq dmX13_addNet_41 (fun v5 hq => ?_)
          refine lv_iload_n hx hb dmX13_addNet_42 rfl (lv_at hl 2 rfl) ?_
          refine lv_iadd hx hb dmX13_addNet_43 ?_
          refine lv_aload_n hx hb dmX13_addNet_44 rfl (lv_at hl 1 rfl) ?_
          refine mg13_32 hx hb hT hown hK hM hN hr1 dmX13_addNet_45 ?_
          refine lv_iload hx hb dmX13_addNet_48 (lv_at hl 4 rfl) ?_
          refine tw_iald mX_ok hx hb hK hM (mrn_5 hr1) hq dmX13_addNet_50 (fun v6 hq => ?_)
          obtain ⟨z7, hcq, hq⟩ := tw_cl0 hq
          refine tw_calv hM (va_runV (As := [.int (v5 + x2), .int v6]) (rest := []) ⟨hx, hb, hml, hown, hts⟩ (km_X12_add l D q u hU K 3000 (v5 + x2) v6 mw_n3 z z7 hcq) (cwV 2 hts (tw_gV wM_good wq_87 wq_15 wq_16 wq_13 wq_6) rfl rfl rfl cd_X12_add ⟨(Nat.le_of_ble_eq_true rfl), (Nat.le_of_ble_eq_true rfl)⟩) (mw_preV hK hN hM (mo_n mw_n3) rfl) rfl rfl hl.1 rfl (lv_room (Nat.le_of_ble_eq_true rfl)) dmX13_addNet_51 ⟨(Nat.le_of_ble_eq_true rfl), (Nat.le_of_ble_eq_true rfl)⟩) (fun H locs hM => ?_)
          refine lv_iinc (v := (x4 + 1)) (lv' := [(4, .int (x4 + 1)), (0, .ref (u 0)), (1, .ref (u r1)), (2, .int x2), (3, .int x3)]) hx hb dmX13_addNet_54 hl (k := 4) rfl rfl (by decide) rfl (fun ls hl => ?_)
          refine lv_goto (tgt := 18) hx hb dmX13_addNet_57 (by decide) ?_
          exact ih_2 x2 x3 (x4 + 1) r1 z7 H locs ls hr1 hM (lv_sub hl [1, 2, 3, 4, 0] rfl) hq
      · intro x2 x3 x4 r1 z H locs ls hr1 hM hl hq
        have hq : qm_X13_addNet_3 K (q_X13_addNet K k) x2 x3 x4 r1 z = some z1 := hq
        unfold qm_X13_addNet_3 at hq
        refine lv_iload_n hx hb dmX13_addNet_75 rfl (lv_at hl 3 rfl) ?_
        refine lv_aload_n hx hb dmX13_addNet_76 rfl (lv_at hl 1 rfl) ?_
        refine mg13_44 hx hb hT hown hK hM hN hr1 hq dmX13_addNet_77 (fun v8 hq => ?_)
        refine lv_iconst (v := 2) hx hb dmX13_addNet_80 (by decide) ?_
        obtain ⟨hz, hq⟩ := tw_nzI hq
        refine lv_idiv hx hb dmX13_addNet_81 hz ?_
        refine lv_icmp_ge (tgt := 108) hx hb dmX13_addNet_82 (by decide) (fun hc => ?_) (fun hc => ?_)
        · have hq := tw_it hq hc
          exact mw_vret hx hb hr hlocks hM hq hQQ dmX13_addNet_108
        · have hq := tw_if hq hc
          refine lv_aload_n hx hb dmX13_addNet_85 rfl (lv_at hl 0 rfl) ?_
          refine mg13_121 hx hb hT hown hK hM dmX13_addNet_86 ?_
          refine mg13_35 hx hb hT hown hK hM hN mw_n3 dmX13_addNet_89 ?_
          refine lv_iload_n hx hb dmX13_addNet_92 rfl (lv_at hl 3 rfl) ?_
          refine lv_iload_n hx hb dmX13_addNet_93 rfl (lv_at hl 2 rfl) ?_
          refine lv_iadd hx hb dmX13_addNet_94 ?_
          refine lv_aload_n hx hb dmX13_addNet_95 rfl (lv_at hl 1 rfl) ?_
          refine mg13_35 hx hb hT hown hK hM hN hr1 dmX13_addNet_96 ?_
          refine lv_iload_n hx hb dmX13_addNet_99 rfl (lv_at hl 3 rfl) ?_
          refine tw_iald mX_ok hx hb hK hM (mrn_6 hr1) hq dmX13_addNet_100 (fun v9 hq => ?_)
          refine tw_iast mX_ok hU hx hb hK hM (mrn_6 mw_n3) hq dmX13_addNet_101 (fun z10 H locs hM hq => ?_)
          refine lv_iinc (v := (x3 + 1)) (lv' := [(3, .int (x3 + 1)), (0, .ref (u 0)), (1, .ref (u r1)), (2, .int x2)]) hx hb dmX13_addNet_102 hl (k := 3) rfl rfl (by decide) rfl (fun ls hl => ?_)
          refine lv_goto (tgt := 75) hx hb dmX13_addNet_105 (by decide) ?_
          exact ih_3 x2 (x3 + 1) 0 r1 z10 H locs ls hr1 hM (lv_sub hl [1, 2, 3, 0] rfl) hq
  exact (key K).1 x2 0 0 r1 z s.heap [] ls hr1 hM (lv_sub hl [0, 1, 2] rfl) hq
theorem dmX13_apart_0 : decode cX13_apart 0 = .ok (.aload_n 0, 1) := dw_at cX13_apart_k0 (p := 0) rfl (by decide +kernel)
theorem dmX13_apart_1 : decode cX13_apart 1 = .ok (.iconst 0, 1) := dw_at cX13_apart_k0 (p := 1) rfl (by decide +kernel)
theorem dmX13_apart_2 : decode cX13_apart 2 = .ok (.putfield 1, 3) := dw_at cX13_apart_k0 (p := 2) rfl (by decide +kernel)
theorem dmX13_apart_5 : decode cX13_apart 5 = .ok (.aload_n 0, 1) := dw_at cX13_apart_k0 (p := 5) rfl (by decide +kernel)
theorem dmX13_apart_6 : decode cX13_apart 6 = .ok (.iload_n 1, 1) := dw_at cX13_apart_k0 (p := 6) rfl (by decide +kernel)
theorem dmX13_apart_7 : decode cX13_apart 7 = .ok (.invokevirtual 423, 3) := dw_at cX13_apart_k0 (p := 7) rfl (by decide +kernel)
theorem dmX13_apart_10 : decode cX13_apart 10 = .ok (.ifCond .eq 11, 3) := dw_at cX13_apart_k0 (p := 10) rfl (by decide +kernel)
theorem dmX13_apart_13 : decode cX13_apart 13 = .ok (.aload_n 0, 1) := dw_at cX13_apart_k0 (p := 13) rfl (by decide +kernel)
theorem dmX13_apart_14 : decode cX13_apart 14 = .ok (.iload_n 2, 1) := dw_at cX13_apart_k0 (p := 14) rfl (by decide +kernel)
theorem dmX13_apart_15 : decode cX13_apart 15 = .ok (.invokevirtual 423, 3) := dw_at cX13_apart_k0 (p := 15) rfl (by decide +kernel)
theorem dmX13_apart_18 : decode cX13_apart 18 = .ok (.ifCond .ne 9, 3) := dw_at cX13_apart_k0 (p := 18) rfl (by decide +kernel)
theorem dmX13_apart_21 : decode cX13_apart 21 = .ok (.aload_n 0, 1) := dw_at cX13_apart_k0 (p := 21) rfl (by decide +kernel)
theorem dmX13_apart_22 : decode cX13_apart 22 = .ok (.iconst 1, 1) := dw_at cX13_apart_k0 (p := 22) rfl (by decide +kernel)
theorem dmX13_apart_23 : decode cX13_apart 23 = .ok (.invokevirtual 403, 3) := dw_at cX13_apart_k0 (p := 23) rfl (by decide +kernel)
theorem dmX13_apart_26 : decode cX13_apart 26 = .ok (.ireturn, 1) := dw_at cX13_apart_k1 (p := 0) rfl (by decide +kernel)
theorem dmX13_apart_27 : decode cX13_apart 27 = .ok (.aload_n 0, 1) := dw_at cX13_apart_k1 (p := 1) rfl (by decide +kernel)
theorem dmX13_apart_28 : decode cX13_apart 28 = .ok (.iload_n 1, 1) := dw_at cX13_apart_k1 (p := 2) rfl (by decide +kernel)
theorem dmX13_apart_29 : decode cX13_apart 29 = .ok (.aload_n 0, 1) := dw_at cX13_apart_k1 (p := 3) rfl (by decide +kernel)
theorem dmX13_apart_30 : decode cX13_apart 30 = .ok (.getfield 114, 3) := dw_at cX13_apart_k1 (p := 4) rfl (by decide +kernel)
theorem dmX13_apart_33 : decode cX13_apart 33 = .ok (.invokevirtual 434, 3) := dw_at cX13_apart_k1 (p := 7) rfl (by decide +kernel)
theorem dmX13_apart_36 : decode cX13_apart 36 = .ok (.aload_n 0, 1) := dw_at cX13_apart_k1 (p := 10) rfl (by decide +kernel)
theorem dmX13_apart_37 : decode cX13_apart 37 = .ok (.iload_n 2, 1) := dw_at cX13_apart_k1 (p := 11) rfl (by decide +kernel)
theorem dmX13_apart_38 : decode cX13_apart 38 = .ok (.aload_n 0, 1) := dw_at cX13_apart_k1 (p := 12) rfl (by decide +kernel)
theorem dmX13_apart_39 : decode cX13_apart 39 = .ok (.getfield 118, 3) := dw_at cX13_apart_k1 (p := 13) rfl (by decide +kernel)
theorem dmX13_apart_42 : decode cX13_apart 42 = .ok (.invokevirtual 434, 3) := dw_at cX13_apart_k1 (p := 16) rfl (by decide +kernel)
theorem dmX13_apart_45 : decode cX13_apart 45 = .ok (.aload_n 0, 1) := dw_at cX13_apart_k1 (p := 19) rfl (by decide +kernel)
theorem dmX13_apart_46 : decode cX13_apart 46 = .ok (.getfield 114, 3) := dw_at cX13_apart_k1 (p := 20) rfl (by decide +kernel)
theorem dmX13_apart_49 : decode cX13_apart 49 = .ok (.getfield 44, 3) := dw_at cX13_apart_k1 (p := 23) rfl (by decide +kernel)
theorem dmX13_apart_52 : decode cX13_apart 52 = .ok (.aload_n 0, 1) := dw_at cX13_apart_k2 (p := 0) rfl (by decide +kernel)
theorem dmX13_apart_53 : decode cX13_apart 53 = .ok (.getfield 118, 3) := dw_at cX13_apart_k2 (p := 1) rfl (by decide +kernel)
theorem dmX13_apart_56 : decode cX13_apart 56 = .ok (.getfield 44, 3) := dw_at cX13_apart_k2 (p := 4) rfl (by decide +kernel)
theorem dmX13_apart_59 : decode cX13_apart 59 = .ok (.iadd, 1) := dw_at cX13_apart_k2 (p := 7) rfl (by decide +kernel)
theorem dmX13_apart_60 : decode cX13_apart 60 = .ok (.bipush 24, 2) := dw_at cX13_apart_k2 (p := 8) rfl (by decide +kernel)
theorem dmX13_apart_62 : decode cX13_apart 62 = .ok (.if_icmp .gt 23, 3) := dw_at cX13_apart_k2 (p := 10) rfl (by decide +kernel)
theorem dmX13_apart_65 : decode cX13_apart 65 = .ok (.aload_n 0, 1) := dw_at cX13_apart_k2 (p := 13) rfl (by decide +kernel)
theorem dmX13_apart_66 : decode cX13_apart 66 = .ok (.getfield 114, 3) := dw_at cX13_apart_k2 (p := 14) rfl (by decide +kernel)
theorem dmX13_apart_69 : decode cX13_apart 69 = .ok (.getfield 407, 3) := dw_at cX13_apart_k2 (p := 17) rfl (by decide +kernel)
theorem dmX13_apart_72 : decode cX13_apart 72 = .ok (.aload_n 0, 1) := dw_at cX13_apart_k2 (p := 20) rfl (by decide +kernel)
theorem dmX13_apart_73 : decode cX13_apart 73 = .ok (.getfield 118, 3) := dw_at cX13_apart_k2 (p := 21) rfl (by decide +kernel)
theorem dmX13_apart_76 : decode cX13_apart 76 = .ok (.getfield 407, 3) := dw_at cX13_apart_k3 (p := 0) rfl (by decide +kernel)
theorem dmX13_apart_79 : decode cX13_apart 79 = .ok (.iadd, 1) := dw_at cX13_apart_k3 (p := 3) rfl (by decide +kernel)
theorem dmX13_apart_80 : decode cX13_apart 80 = .ok (.bipush 6, 2) := dw_at cX13_apart_k3 (p := 4) rfl (by decide +kernel)
theorem dmX13_apart_82 : decode cX13_apart 82 = .ok (.if_icmp .le 9, 3) := dw_at cX13_apart_k3 (p := 6) rfl (by decide +kernel)
theorem dmX13_apart_85 : decode cX13_apart 85 = .ok (.aload_n 0, 1) := dw_at cX13_apart_k3 (p := 9) rfl (by decide +kernel)
theorem dmX13_apart_86 : decode cX13_apart 86 = .ok (.iconst 2, 1) := dw_at cX13_apart_k3 (p := 10) rfl (by decide +kernel)
theorem dmX13_apart_87 : decode cX13_apart 87 = .ok (.invokevirtual 403, 3) := dw_at cX13_apart_k3 (p := 11) rfl (by decide +kernel)
theorem dmX13_apart_90 : decode cX13_apart 90 = .ok (.ireturn, 1) := dw_at cX13_apart_k3 (p := 14) rfl (by decide +kernel)
theorem dmX13_apart_91 : decode cX13_apart 91 = .ok (.aload_n 0, 1) := dw_at cX13_apart_k3 (p := 15) rfl (by decide +kernel)
theorem dmX13_apart_92 : decode cX13_apart 92 = .ok (.invokevirtual 392, 3) := dw_at cX13_apart_k3 (p := 16) rfl (by decide +kernel)
theorem dmX13_apart_95 : decode cX13_apart 95 = .ok (.iconst (-1), 1) := dw_at cX13_apart_k3 (p := 19) rfl (by decide +kernel)
theorem dmX13_apart_96 : decode cX13_apart 96 = .ok (.if_icmp .ne 9, 3) := dw_at cX13_apart_k3 (p := 20) rfl (by decide +kernel)
theorem dmX13_apart_99 : decode cX13_apart 99 = .ok (.aload_n 0, 1) := dw_at cX13_apart_k3 (p := 23) rfl (by decide +kernel)
theorem dmX13_apart_100 : decode cX13_apart 100 = .ok (.iconst 3, 1) := dw_at cX13_apart_k4 (p := 0) rfl (by decide +kernel)
theorem dmX13_apart_101 : decode cX13_apart 101 = .ok (.invokevirtual 403, 3) := dw_at cX13_apart_k4 (p := 1) rfl (by decide +kernel)
theorem dmX13_apart_104 : decode cX13_apart 104 = .ok (.ireturn, 1) := dw_at cX13_apart_k4 (p := 4) rfl (by decide +kernel)
theorem dmX13_apart_105 : decode cX13_apart 105 = .ok (.aload_n 0, 1) := dw_at cX13_apart_k4 (p := 5) rfl (by decide +kernel)
theorem dmX13_apart_106 : decode cX13_apart 106 = .ok (.getfield 121, 3) := dw_at cX13_apart_k4 (p := 6) rfl (by decide +kernel)
theorem dmX13_apart_109 : decode cX13_apart 109 = .ok (.invokevirtual 91, 3) := dw_at cX13_apart_k4 (p := 9) rfl (by decide +kernel)
theorem dmX13_apart_112 : decode cX13_apart 112 = .ok (.aload_n 0, 1) := dw_at cX13_apart_k4 (p := 12) rfl (by decide +kernel)
theorem dmX13_apart_113 : decode cX13_apart 113 = .ok (.aload_n 0, 1) := dw_at cX13_apart_k4 (p := 13) rfl (by decide +kernel)
theorem dmX13_apart_114 : decode cX13_apart 114 = .ok (.getfield 114, 3) := dw_at cX13_apart_k4 (p := 14) rfl (by decide +kernel)
theorem dmX13_apart_117 : decode cX13_apart 117 = .ok (.iconst 0, 1) := dw_at cX13_apart_k4 (p := 17) rfl (by decide +kernel)
theorem dmX13_apart_118 : decode cX13_apart 118 = .ok (.invokevirtual 462, 3) := dw_at cX13_apart_k4 (p := 18) rfl (by decide +kernel)
theorem dmX13_apart_121 : decode cX13_apart 121 = .ok (.aload_n 0, 1) := dw_at cX13_apart_k4 (p := 21) rfl (by decide +kernel)
theorem dmX13_apart_122 : decode cX13_apart 122 = .ok (.aload_n 0, 1) := dw_at cX13_apart_k4 (p := 22) rfl (by decide +kernel)
theorem dmX13_apart_123 : decode cX13_apart 123 = .ok (.getfield 118, 3) := dw_at cX13_apart_k4 (p := 23) rfl (by decide +kernel)
theorem dmX13_apart_126 : decode cX13_apart 126 = .ok (.aload_n 0, 1) := dw_at cX13_apart_k5 (p := 0) rfl (by decide +kernel)
theorem dmX13_apart_127 : decode cX13_apart 127 = .ok (.getfield 114, 3) := dw_at cX13_apart_k5 (p := 1) rfl (by decide +kernel)
theorem dmX13_apart_130 : decode cX13_apart 130 = .ok (.getfield 44, 3) := dw_at cX13_apart_k5 (p := 4) rfl (by decide +kernel)
theorem dmX13_apart_133 : decode cX13_apart 133 = .ok (.iconst 2, 1) := dw_at cX13_apart_k5 (p := 7) rfl (by decide +kernel)
theorem dmX13_apart_134 : decode cX13_apart 134 = .ok (.idiv, 1) := dw_at cX13_apart_k5 (p := 8) rfl (by decide +kernel)
theorem dmX13_apart_135 : decode cX13_apart 135 = .ok (.invokevirtual 462, 3) := dw_at cX13_apart_k5 (p := 9) rfl (by decide +kernel)
theorem dmX13_apart_138 : decode cX13_apart 138 = .ok (.aload_n 0, 1) := dw_at cX13_apart_k5 (p := 12) rfl (by decide +kernel)
theorem dmX13_apart_139 : decode cX13_apart 139 = .ok (.invokevirtual 420, 3) := dw_at cX13_apart_k5 (p := 13) rfl (by decide +kernel)
theorem dmX13_apart_142 : decode cX13_apart 142 = .ok (.ireturn, 1) := dw_at cX13_apart_k5 (p := 16) rfl (by decide +kernel)
def qm_X13_apart_0 (K : Nat) (go : Nat → Int32 → Int32 → ow_MS → Option (Int32 × ow_MS)) (x1 : Int32) (x2 : Int32) (z : ow_MS) : Option (Int32 × ow_MS) :=
 wrF z 1 0 fun z1 => cs1 (qe_X13_has K x1 z1) fun v3 z2 => (if v3 = 0 then go 1 x1 x2 z2
 else cs1 (qe_X13_has K x2 z2) fun v5 z4 => (if v5 = 0 then go 1 x1 x2 z4
 else cs0 (qe_X13_open K x1 1000 z4) fun z6 => cs0 (qe_X13_open K x2 2000 z6) fun z7 => rdF z7 (1000 + 1) fun v8 => rdF z7 (2000 + 1) fun v9 => (if 24 < (v8 + v9) then go 2 x1 x2 z7
 else rdF z7 (1000 + 2) fun v10 => rdF z7 (2000 + 2) fun v11 => (if (v10 + v11) ≤ 6 then cs1 (qe_X13_free K z7) fun v13 z12 => (if v13 = (-1) then cs1 (qe_X13_fails K 3 z12) fun v21 z20 => some (v21, z20)
 else cs0 (qe_X12_clear K 3000 z12) fun z14 => cs0 (qe_X13_addNet K 1000 0 z14) fun z15 => rdF z15 (1000 + 1) fun v16 => nzI 2 (cs0 (qe_X13_addNet K 2000 (v16 / 2) z15) fun z17 => cs1 (qe_X13_keep K z17) fun v19 z18 => some (v19, z18)))
 else go 2 x1 x2 z7))))
def qm_X13_apart_1 (K : Nat) (go : Nat → Int32 → Int32 → ow_MS → Option (Int32 × ow_MS)) (x1 : Int32) (x2 : Int32) (z : ow_MS) : Option (Int32 × ow_MS) :=
 cs1 (qe_X13_fails K 1 z) fun v23 z22 => some (v23, z22)
def qm_X13_apart_2 (K : Nat) (go : Nat → Int32 → Int32 → ow_MS → Option (Int32 × ow_MS)) (x1 : Int32) (x2 : Int32) (z : ow_MS) : Option (Int32 × ow_MS) :=
 cs1 (qe_X13_fails K 2 z) fun v25 z24 => some (v25, z24)
def qb_X13_apart (K : Nat) (go : Nat → Int32 → Int32 → ow_MS → Option (Int32 × ow_MS)) (L : Nat) (x1 : Int32) (x2 : Int32) (z : ow_MS) : Option (Int32 × ow_MS) := match L with
  | 0 => qm_X13_apart_0 K go x1 x2 z
  | 1 => qm_X13_apart_1 K go x1 x2 z
  | 2 => qm_X13_apart_2 K go x1 x2 z
  | _ => none
def q_X13_apart (K : Nat) : Nat → Nat → Int32 → Int32 → ow_MS → Option (Int32 × ow_MS)
  | 0 => fun _ _ _ _ => none
  | k + 1 => qb_X13_apart K (q_X13_apart K k)
def qe_X13_apart (K : Nat) (x1 : Int32) (x2 : Int32) (z : ow_MS) : Option (Int32 × ow_MS) := q_X13_apart K K 0 x1 x2 z
abbrev wm_X13_apart : List Cond := .code yX13_apart cX13_apart 3 (some .int) :: wM
theorem cd_X13_apart : yX13_apart.cls = RX13 ∧ yX13_apart.cls ≠ "java/lang/invoke/MethodHandle" ∧ yX13_apart.cls ≠ "java/lang/invoke/VarHandle" ∧ (parseMethodDescriptor yX13_apart.desc).map (fun d => d.parameters.length) = some 2 := by decide +kernel
set_option maxHeartbeats 4000000 in
set_option maxRecDepth 100000 in
theorem km_X13_apart (l : Launch) (D : va_G) (q : ow_Q5) (u : Nat → Nat) (hU : tw_inj mX u) (K : Nat) (x1 : Int32) (x2 : Int32)  (z z1 : ow_MS) (r : Int32) (hq : qe_X13_apart K x1 x2 z = some (r, z1)) : Met l yX13_apart wm_X13_apart ({ frames := 5, cells := 0, slots := 0, locals := 132 } : Room) (va_Pc [.ref (u 0), .int x1, .int x2] (mw_pre D q u z)) (va_Qi (fun x (_ : Unit) => x = r) (fun _ t => va_P D vwCl (tw mX q u z1) t.heap) (tw_A mX u)) 0 0 (tw_A mX u) := by
  refine Met.ofW (cc := cX13_apart) (maxL := 3) (ret := (some .int)) (by decide) rfl ?_
  intro p e s m args below meth c s₁ B hml hv
  obtain ⟨rfl, hP, hK, hN⟩ := hv
  have hx := B.exec
  have hb := B.bytes
  have hr := B.returns
  have hts := atoms_spec (ws := wm_X13_apart) B.pre
  have hT : ∀ w ∈ wM, w.before ([.ref (u 0), .int x1, .int x2] : List Value).toArray s = true := fun w h => hts w (List.mem_cons_of_mem _ h)
  have hown : s.vm.findClass RX13 = some m.cls := findClass_of_methodNamed B.named
  have hlocks := B.notSynchronized
  have hM : tw_M D vwCl mX q s.heap u z s.heap [] := ⟨hP, va_S.rf⟩
  have hl := lv_entry ([.ref (u 0), .int x1, .int x2]) (n := 3) (Nat.le_of_ble_eq_true rfl)
  rw [lg_entry_eq]
  generalize (lg_sl ([.ref (u 0), .int x1, .int x2]) ++ List.replicate (3 - (lg_sl ([.ref (u 0), .int x1, .int x2])).length) Slot.unset).toArray = ls at hl ⊢
  have hl : lv_has ls 3 [(0, .ref (u 0)), (1, .int x1), (2, .int x2)] := hl
  refine ow_named (fun QQ hQQ => ?_)
  generalize ([.ref (u 0), .int x1, .int x2] : List Value).toArray = args at hts hT hQQ ⊢
  have key : ∀ k : Nat, (∀ (x1 : Int32) (x2 : Int32) (z : ow_MS) (H : Heap) (locs : List Loc) (ls : Array Slot), tw_M D vwCl mX q s.heap u z H locs → lv_has ls 3 [(0, .ref (u 0)), (1, .int x1), (2, .int x2)] → q_X13_apart K k 0 x1 x2 z = some (r, z1) → W p l e ({ frames := 5, cells := 0, slots := 0, locals := 132 } : Room) s m args below meth c H locs 0 0 QQ (F0 m 0 ls [])) ∧ (∀ (x1 : Int32) (x2 : Int32) (z : ow_MS) (H : Heap) (locs : List Loc) (ls : Array Slot), tw_M D vwCl mX q s.heap u z H locs → lv_has ls 3 [(0, .ref (u 0)), (1, .int x1), (2, .int x2)] → q_X13_apart K k 1 x1 x2 z = some (r, z1) → W p l e ({ frames := 5, cells := 0, slots := 0, locals := 132 } : Room) s m args below meth c H locs 0 0 QQ (F0 m 21 ls [])) ∧ (∀ (x1 : Int32) (x2 : Int32) (z : ow_MS) (H : Heap) (locs : List Loc) (ls : Array Slot), tw_M D vwCl mX q s.heap u z H locs → lv_has ls 3 [(0, .ref (u 0)), (1, .int x1), (2, .int x2)] → q_X13_apart K k 2 x1 x2 z = some (r, z1) → W p l e ({ frames := 5, cells := 0, slots := 0, locals := 132 } : Room) s m args below meth c H locs 0 0 QQ (F0 m 85 ls [])) := by
    intro k
    induction k with
    | zero => exact ⟨fun _ _ _ _ _ _  _ _ hq => tw_no hq, fun _ _ _ _ _ _  _ _ hq => tw_no hq, fun _ _ _ _ _ _  _ _ hq => tw_no hq⟩
    | succ k ih =>
      obtain ⟨ih_0, ih_1, ih_2⟩ := ih
      refine ⟨?_, ?_, ?_⟩
      · intro x1 x2 z H locs ls  hM hl hq
        have hq : qm_X13_apart_0 K (q_X13_apart K k) x1 x2 z = some (r, z1) := hq
        unfold qm_X13_apart_0 at hq
        refine lv_aload_n hx hb dmX13_apart_0 rfl (lv_at hl 0 rfl) ?_
        refine lv_iconst (v := 0) hx hb dmX13_apart_1 (by decide) ?_
        refine mp13_1 hx hb hT hown hK hM hU hq dmX13_apart_2 (fun z1 H locs hM hq => ?_)
        refine lv_aload_n hx hb dmX13_apart_5 rfl (lv_at hl 0 rfl) ?_
        refine lv_iload_n hx hb dmX13_apart_6 rfl (lv_at hl 1 rfl) ?_
        obtain ⟨v3, z2, hcq, hq⟩ := tw_cl1 hq
        refine tw_cali hM (va_runV (As := [.int x1]) (rest := []) ⟨hx, hb, hml, hown, hts⟩ (km_X13_has l D q u hU K x1 z1 z2 v3 hcq) (cwV 1 hts (tw_gV wM_good wq_127 wq_128 wq_129 wq_61 wq_90) rfl rfl rfl cd_X13_has ⟨(Nat.le_of_ble_eq_true rfl), (Nat.le_of_ble_eq_true rfl)⟩) (mw_preV hK hN hM mo_0 rfl) rfl rfl hl.1 rfl (lv_room (Nat.le_of_ble_eq_true rfl)) dmX13_apart_7 ⟨(Nat.le_of_ble_eq_true rfl), (Nat.le_of_ble_eq_true rfl)⟩) (fun H locs hM => ?_)
        refine lv_if_eq (tgt := 21) hx hb dmX13_apart_10 (by decide) (fun hc => ?_) (fun hc => ?_)
        · have hq := tw_it hq hc
          exact ih_1 x1 x2 z2 H locs ls hM (lv_sub hl [0, 1, 2] rfl) hq
        · have hq := tw_if hq hc
          refine lv_aload_n hx hb dmX13_apart_13 rfl (lv_at hl 0 rfl) ?_
          refine lv_iload_n hx hb dmX13_apart_14 rfl (lv_at hl 2 rfl) ?_
          obtain ⟨v5, z4, hcq, hq⟩ := tw_cl1 hq
          refine tw_cali hM (va_runV (As := [.int x2]) (rest := []) ⟨hx, hb, hml, hown, hts⟩ (km_X13_has l D q u hU K x2 z2 z4 v5 hcq) (cwV 1 hts (tw_gV wM_good wq_127 wq_128 wq_129 wq_61 wq_90) rfl rfl rfl cd_X13_has ⟨(Nat.le_of_ble_eq_true rfl), (Nat.le_of_ble_eq_true rfl)⟩) (mw_preV hK hN hM mo_0 rfl) rfl rfl hl.1 rfl (lv_room (Nat.le_of_ble_eq_true rfl)) dmX13_apart_15 ⟨(Nat.le_of_ble_eq_true rfl), (Nat.le_of_ble_eq_true rfl)⟩) (fun H locs hM => ?_)
          refine lv_if_ne (tgt := 27) hx hb dmX13_apart_18 (by decide) (fun hc => ?_) (fun hc => ?_)
          · have hq := tw_if hq hc
            refine lv_aload_n hx hb dmX13_apart_27 rfl (lv_at hl 0 rfl) ?_
            refine lv_iload_n hx hb dmX13_apart_28 rfl (lv_at hl 1 rfl) ?_
            refine lv_aload_n hx hb dmX13_apart_29 rfl (lv_at hl 0 rfl) ?_
            refine mg13_114 hx hb hT hown hK hM dmX13_apart_30 ?_
            obtain ⟨z6, hcq, hq⟩ := tw_cl0 hq
            refine tw_calv hM (va_runV (As := [.int x1, .ref (u 1000)]) (rest := []) ⟨hx, hb, hml, hown, hts⟩ (km_X13_open l D q u hU K x1 1000 mw_n1 z4 z6 hcq) (cwV 2 hts (tw_gV wM_good wq_138 wq_139 wq_140 wq_61 wq_136) rfl rfl rfl cd_X13_open ⟨(Nat.le_of_ble_eq_true rfl), (Nat.le_of_ble_eq_true rfl)⟩) (mw_preV hK hN hM mo_0 rfl) rfl rfl hl.1 rfl (lv_room (Nat.le_of_ble_eq_true rfl)) dmX13_apart_33 ⟨(Nat.le_of_ble_eq_true rfl), (Nat.le_of_ble_eq_true rfl)⟩) (fun H locs hM => ?_)
            refine lv_aload_n hx hb dmX13_apart_36 rfl (lv_at hl 0 rfl) ?_
            refine lv_iload_n hx hb dmX13_apart_37 rfl (lv_at hl 2 rfl) ?_
            refine lv_aload_n hx hb dmX13_apart_38 rfl (lv_at hl 0 rfl) ?_
            refine mg13_118 hx hb hT hown hK hM dmX13_apart_39 ?_
            obtain ⟨z7, hcq, hq⟩ := tw_cl0 hq
            refine tw_calv hM (va_runV (As := [.int x2, .ref (u 2000)]) (rest := []) ⟨hx, hb, hml, hown, hts⟩ (km_X13_open l D q u hU K x2 2000 mw_n2 z6 z7 hcq) (cwV 2 hts (tw_gV wM_good wq_138 wq_139 wq_140 wq_61 wq_136) rfl rfl rfl cd_X13_open ⟨(Nat.le_of_ble_eq_true rfl), (Nat.le_of_ble_eq_true rfl)⟩) (mw_preV hK hN hM mo_0 rfl) rfl rfl hl.1 rfl (lv_room (Nat.le_of_ble_eq_true rfl)) dmX13_apart_42 ⟨(Nat.le_of_ble_eq_true rfl), (Nat.le_of_ble_eq_true rfl)⟩) (fun H locs hM => ?_)
            refine lv_aload_n hx hb dmX13_apart_45 rfl (lv_at hl 0 rfl) ?_
            refine mg13_114 hx hb hT hown hK hM dmX13_apart_46 ?_
            refine mg13_44 hx hb hT hown hK hM hN mw_n1 hq dmX13_apart_49 (fun v8 hq => ?_)
            refine lv_aload_n hx hb dmX13_apart_52 rfl (lv_at hl 0 rfl) ?_
            refine mg13_118 hx hb hT hown hK hM dmX13_apart_53 ?_
            refine mg13_44 hx hb hT hown hK hM hN mw_n2 hq dmX13_apart_56 (fun v9 hq => ?_)
            refine lv_iadd hx hb dmX13_apart_59 ?_
            refine lv_bipush (v := 24) hx hb dmX13_apart_60 (by decide) ?_
            refine lv_icmp_gt (tgt := 85) hx hb dmX13_apart_62 (by decide) (fun hc => ?_) (fun hc => ?_)
            · have hq := tw_it hq hc
              exact ih_2 x1 x2 z7 H locs ls hM (lv_sub hl [0, 1, 2] rfl) hq
            · have hq := tw_if hq hc
              refine lv_aload_n hx hb dmX13_apart_65 rfl (lv_at hl 0 rfl) ?_
              refine mg13_114 hx hb hT hown hK hM dmX13_apart_66 ?_
              refine mg13_407 hx hb hT hown hK hM hN mw_n1 hq dmX13_apart_69 (fun v10 hq => ?_)
              refine lv_aload_n hx hb dmX13_apart_72 rfl (lv_at hl 0 rfl) ?_
              refine mg13_118 hx hb hT hown hK hM dmX13_apart_73 ?_
              refine mg13_407 hx hb hT hown hK hM hN mw_n2 hq dmX13_apart_76 (fun v11 hq => ?_)
              refine lv_iadd hx hb dmX13_apart_79 ?_
              refine lv_bipush (v := 6) hx hb dmX13_apart_80 (by decide) ?_
              refine lv_icmp_le (tgt := 91) hx hb dmX13_apart_82 (by decide) (fun hc => ?_) (fun hc => ?_)
              · have hq := tw_it hq hc
                refine lv_aload_n hx hb dmX13_apart_91 rfl (lv_at hl 0 rfl) ?_
                obtain ⟨v13, z12, hcq, hq⟩ := tw_cl1 hq
                refine tw_cali hM (va_runV (As := []) (rest := []) ⟨hx, hb, hml, hown, hts⟩ (km_X13_free l D q u hU K z7 z12 v13 hcq) (cwV 0 hts (tw_gV wM_good wq_93 wq_94 wq_95 wq_61 wq_91) rfl rfl rfl cd_X13_free ⟨(Nat.le_of_ble_eq_true rfl), (Nat.le_of_ble_eq_true rfl)⟩) (mw_preV hK hN hM mo_0 rfl) rfl rfl hl.1 rfl (lv_room (Nat.le_of_ble_eq_true rfl)) dmX13_apart_92 ⟨(Nat.le_of_ble_eq_true rfl), (Nat.le_of_ble_eq_true rfl)⟩) (fun H locs hM => ?_)
                refine lv_iconst (v := (-1)) hx hb dmX13_apart_95 (by decide) ?_
                refine lv_icmp_ne (tgt := 105) hx hb dmX13_apart_96 (by decide) (fun hc => ?_) (fun hc => ?_)
                · have hq := tw_if hq hc
                  refine lv_aload_n hx hb dmX13_apart_105 rfl (lv_at hl 0 rfl) ?_
                  refine mg13_121 hx hb hT hown hK hM dmX13_apart_106 ?_
                  obtain ⟨z14, hcq, hq⟩ := tw_cl0 hq
                  refine tw_calv hM (va_runV (As := []) (rest := []) ⟨hx, hb, hml, hown, hts⟩ (km_X12_clear l D q u hU K 3000 mw_n3 z12 z14 hcq) (cwV 0 hts (tw_gV wM_good wq_85 wq_11 wq_12 wq_13 wq_3) rfl rfl rfl cd_X12_clear ⟨(Nat.le_of_ble_eq_true rfl), (Nat.le_of_ble_eq_true rfl)⟩) (mw_preV hK hN hM (mo_n mw_n3) rfl) rfl rfl hl.1 rfl (lv_room (Nat.le_of_ble_eq_true rfl)) dmX13_apart_109 ⟨(Nat.le_of_ble_eq_true rfl), (Nat.le_of_ble_eq_true rfl)⟩) (fun H locs hM => ?_)
                  refine lv_aload_n hx hb dmX13_apart_112 rfl (lv_at hl 0 rfl) ?_
                  refine lv_aload_n hx hb dmX13_apart_113 rfl (lv_at hl 0 rfl) ?_
                  refine mg13_114 hx hb hT hown hK hM dmX13_apart_114 ?_
                  refine lv_iconst (v := 0) hx hb dmX13_apart_117 (by decide) ?_
                  obtain ⟨z15, hcq, hq⟩ := tw_cl0 hq
                  refine tw_calv hM (va_runV (As := [.ref (u 1000), .int 0]) (rest := []) ⟨hx, hb, hml, hown, hts⟩ (km_X13_addNet l D q u hU K 1000 0 mw_n1 z14 z15 hcq) (cwV 2 hts (tw_gV wM_good wq_165 wq_166 wq_167 wq_61 wq_163) rfl rfl rfl cd_X13_addNet ⟨(Nat.le_of_ble_eq_true rfl), (Nat.le_of_ble_eq_true rfl)⟩) (mw_preV hK hN hM mo_0 rfl) rfl rfl hl.1 rfl (lv_room (Nat.le_of_ble_eq_true rfl)) dmX13_apart_118 ⟨(Nat.le_of_ble_eq_true rfl), (Nat.le_of_ble_eq_true rfl)⟩) (fun H locs hM => ?_)
                  refine lv_aload_n hx hb dmX13_apart_121 rfl (lv_at hl 0 rfl) ?_
                  refine lv_aload_n hx hb dmX13_apart_122 rfl (lv_at hl 0 rfl) ?_
                  refine mg13_118 hx hb hT hown hK hM dmX13_apart_123 ?_
                  refine lv_aload_n hx hb dmX13_apart_126 rfl (lv_at hl 0 rfl) ?_
                  refine mg13_114 hx hb hT hown hK hM dmX13_apart_127 ?_
                  refine mg13_44 hx hb hT hown hK hM hN mw_n1 hq dmX13_apart_130 (fun v16 hq => ?_)
                  refine lv_iconst (v := 2) hx hb dmX13_apart_133 (by decide) ?_
                  obtain ⟨hz, hq⟩ := tw_nzI hq
                  refine lv_idiv hx hb dmX13_apart_134 hz ?_
                  obtain ⟨z17, hcq, hq⟩ := tw_cl0 hq
                  refine tw_calv hM (va_runV (As := [.ref (u 2000), .int (v16 / 2)]) (rest := []) ⟨hx, hb, hml, hown, hts⟩ (km_X13_addNet l D q u hU K 2000 (v16 / 2) mw_n2 z15 z17 hcq) (cwV 2 hts (tw_gV wM_good wq_165 wq_166 wq_167 wq_61 wq_163) rfl rfl rfl cd_X13_addNet ⟨(Nat.le_of_ble_eq_true rfl), (Nat.le_of_ble_eq_true rfl)⟩) (mw_preV hK hN hM mo_0 rfl) rfl rfl hl.1 rfl (lv_room (Nat.le_of_ble_eq_true rfl)) dmX13_apart_135 ⟨(Nat.le_of_ble_eq_true rfl), (Nat.le_of_ble_eq_true rfl)⟩) (fun H locs hM => ?_)
                  refine lv_aload_n hx hb dmX13_apart_138 rfl (lv_at hl 0 rfl) ?_
                  obtain ⟨v19, z18, hcq, hq⟩ := tw_cl1 hq
                  refine tw_cali hM (va_runV (As := []) (rest := []) ⟨hx, hb, hml, hown, hts⟩ (km_X13_keep l D q u hU K z17 z18 v19 hcq) (cwV 0 hts (tw_gV wM_good wq_123 wq_124 wq_125 wq_61 wq_99) rfl rfl rfl cd_X13_keep ⟨(Nat.le_of_ble_eq_true rfl), (Nat.le_of_ble_eq_true rfl)⟩) (mw_preV hK hN hM mo_0 rfl) rfl rfl hl.1 rfl (lv_room (Nat.le_of_ble_eq_true rfl)) dmX13_apart_139 ⟨(Nat.le_of_ble_eq_true rfl), (Nat.le_of_ble_eq_true rfl)⟩) (fun H locs hM => ?_)
                  exact mw_iret hx hb hr hlocks hM hq hQQ dmX13_apart_142
                · have hq := tw_it hq hc
                  refine lv_aload_n hx hb dmX13_apart_99 rfl (lv_at hl 0 rfl) ?_
                  refine lv_iconst (v := 3) hx hb dmX13_apart_100 (by decide) ?_
                  obtain ⟨v21, z20, hcq, hq⟩ := tw_cl1 hq
                  refine tw_cali hM (va_runV (As := [.int 3]) (rest := []) ⟨hx, hb, hml, hown, hts⟩ (km_X13_fails l D q u hU K 3 z12 z20 v21 hcq) (cwV 1 hts (tw_gV wM_good wq_103 wq_104 wq_105 wq_61 wq_50) rfl rfl rfl cd_X13_fails ⟨(Nat.le_of_ble_eq_true rfl), (Nat.le_of_ble_eq_true rfl)⟩) (mw_preV hK hN hM mo_0 rfl) rfl rfl hl.1 rfl (lv_room (Nat.le_of_ble_eq_true rfl)) dmX13_apart_101 ⟨(Nat.le_of_ble_eq_true rfl), (Nat.le_of_ble_eq_true rfl)⟩) (fun H locs hM => ?_)
                  exact mw_iret hx hb hr hlocks hM hq hQQ dmX13_apart_104
              · have hq := tw_if hq hc
                exact ih_2 x1 x2 z7 H locs ls hM (lv_sub hl [0, 1, 2] rfl) hq
          · have hq := tw_it hq hc
            exact ih_1 x1 x2 z4 H locs ls hM (lv_sub hl [0, 1, 2] rfl) hq
      · intro x1 x2 z H locs ls  hM hl hq
        have hq : qm_X13_apart_1 K (q_X13_apart K k) x1 x2 z = some (r, z1) := hq
        unfold qm_X13_apart_1 at hq
        refine lv_aload_n hx hb dmX13_apart_21 rfl (lv_at hl 0 rfl) ?_
        refine lv_iconst (v := 1) hx hb dmX13_apart_22 (by decide) ?_
        obtain ⟨v23, z22, hcq, hq⟩ := tw_cl1 hq
        refine tw_cali hM (va_runV (As := [.int 1]) (rest := []) ⟨hx, hb, hml, hown, hts⟩ (km_X13_fails l D q u hU K 1 z z22 v23 hcq) (cwV 1 hts (tw_gV wM_good wq_103 wq_104 wq_105 wq_61 wq_50) rfl rfl rfl cd_X13_fails ⟨(Nat.le_of_ble_eq_true rfl), (Nat.le_of_ble_eq_true rfl)⟩) (mw_preV hK hN hM mo_0 rfl) rfl rfl hl.1 rfl (lv_room (Nat.le_of_ble_eq_true rfl)) dmX13_apart_23 ⟨(Nat.le_of_ble_eq_true rfl), (Nat.le_of_ble_eq_true rfl)⟩) (fun H locs hM => ?_)
        exact mw_iret hx hb hr hlocks hM hq hQQ dmX13_apart_26
      · intro x1 x2 z H locs ls  hM hl hq
        have hq : qm_X13_apart_2 K (q_X13_apart K k) x1 x2 z = some (r, z1) := hq
        unfold qm_X13_apart_2 at hq
        refine lv_aload_n hx hb dmX13_apart_85 rfl (lv_at hl 0 rfl) ?_
        refine lv_iconst (v := 2) hx hb dmX13_apart_86 (by decide) ?_
        obtain ⟨v25, z24, hcq, hq⟩ := tw_cl1 hq
        refine tw_cali hM (va_runV (As := [.int 2]) (rest := []) ⟨hx, hb, hml, hown, hts⟩ (km_X13_fails l D q u hU K 2 z z24 v25 hcq) (cwV 1 hts (tw_gV wM_good wq_103 wq_104 wq_105 wq_61 wq_50) rfl rfl rfl cd_X13_fails ⟨(Nat.le_of_ble_eq_true rfl), (Nat.le_of_ble_eq_true rfl)⟩) (mw_preV hK hN hM mo_0 rfl) rfl rfl hl.1 rfl (lv_room (Nat.le_of_ble_eq_true rfl)) dmX13_apart_87 ⟨(Nat.le_of_ble_eq_true rfl), (Nat.le_of_ble_eq_true rfl)⟩) (fun H locs hM => ?_)
        exact mw_iret hx hb hr hlocks hM hq hQQ dmX13_apart_90
  exact (key K).1 x1 x2 z s.heap [] ls  hM (lv_sub hl [0, 1, 2] rfl) hq
theorem dmX13_join_0 : decode cX13_join 0 = .ok (.aload_n 0, 1) := dw_at cX13_join_k0 (p := 0) rfl (by decide +kernel)
theorem dmX13_join_1 : decode cX13_join 1 = .ok (.iconst 0, 1) := dw_at cX13_join_k0 (p := 1) rfl (by decide +kernel)
theorem dmX13_join_2 : decode cX13_join 2 = .ok (.putfield 1, 3) := dw_at cX13_join_k0 (p := 2) rfl (by decide +kernel)
theorem dmX13_join_5 : decode cX13_join 5 = .ok (.aload_n 0, 1) := dw_at cX13_join_k0 (p := 5) rfl (by decide +kernel)
theorem dmX13_join_6 : decode cX13_join 6 = .ok (.iload_n 1, 1) := dw_at cX13_join_k0 (p := 6) rfl (by decide +kernel)
theorem dmX13_join_7 : decode cX13_join 7 = .ok (.invokevirtual 423, 3) := dw_at cX13_join_k0 (p := 7) rfl (by decide +kernel)
theorem dmX13_join_10 : decode cX13_join 10 = .ok (.ifCond .eq 11, 3) := dw_at cX13_join_k0 (p := 10) rfl (by decide +kernel)
theorem dmX13_join_13 : decode cX13_join 13 = .ok (.aload_n 0, 1) := dw_at cX13_join_k0 (p := 13) rfl (by decide +kernel)
theorem dmX13_join_14 : decode cX13_join 14 = .ok (.iload_n 3, 1) := dw_at cX13_join_k0 (p := 14) rfl (by decide +kernel)
theorem dmX13_join_15 : decode cX13_join 15 = .ok (.invokevirtual 423, 3) := dw_at cX13_join_k0 (p := 15) rfl (by decide +kernel)
theorem dmX13_join_18 : decode cX13_join 18 = .ok (.ifCond .ne 9, 3) := dw_at cX13_join_k0 (p := 18) rfl (by decide +kernel)
theorem dmX13_join_21 : decode cX13_join 21 = .ok (.aload_n 0, 1) := dw_at cX13_join_k0 (p := 21) rfl (by decide +kernel)
theorem dmX13_join_22 : decode cX13_join 22 = .ok (.iconst 1, 1) := dw_at cX13_join_k0 (p := 22) rfl (by decide +kernel)
theorem dmX13_join_23 : decode cX13_join 23 = .ok (.invokevirtual 403, 3) := dw_at cX13_join_k0 (p := 23) rfl (by decide +kernel)
theorem dmX13_join_26 : decode cX13_join 26 = .ok (.ireturn, 1) := dw_at cX13_join_k1 (p := 0) rfl (by decide +kernel)
theorem dmX13_join_27 : decode cX13_join 27 = .ok (.aload_n 0, 1) := dw_at cX13_join_k1 (p := 1) rfl (by decide +kernel)
theorem dmX13_join_28 : decode cX13_join 28 = .ok (.iload_n 1, 1) := dw_at cX13_join_k1 (p := 2) rfl (by decide +kernel)
theorem dmX13_join_29 : decode cX13_join 29 = .ok (.aload_n 0, 1) := dw_at cX13_join_k1 (p := 3) rfl (by decide +kernel)
theorem dmX13_join_30 : decode cX13_join 30 = .ok (.getfield 114, 3) := dw_at cX13_join_k1 (p := 4) rfl (by decide +kernel)
theorem dmX13_join_33 : decode cX13_join 33 = .ok (.invokevirtual 434, 3) := dw_at cX13_join_k1 (p := 7) rfl (by decide +kernel)
theorem dmX13_join_36 : decode cX13_join 36 = .ok (.aload_n 0, 1) := dw_at cX13_join_k1 (p := 10) rfl (by decide +kernel)
theorem dmX13_join_37 : decode cX13_join 37 = .ok (.iload_n 3, 1) := dw_at cX13_join_k1 (p := 11) rfl (by decide +kernel)
theorem dmX13_join_38 : decode cX13_join 38 = .ok (.aload_n 0, 1) := dw_at cX13_join_k1 (p := 12) rfl (by decide +kernel)
theorem dmX13_join_39 : decode cX13_join 39 = .ok (.getfield 118, 3) := dw_at cX13_join_k1 (p := 13) rfl (by decide +kernel)
theorem dmX13_join_42 : decode cX13_join 42 = .ok (.invokevirtual 434, 3) := dw_at cX13_join_k1 (p := 16) rfl (by decide +kernel)
theorem dmX13_join_45 : decode cX13_join 45 = .ok (.iload_n 2, 1) := dw_at cX13_join_k1 (p := 19) rfl (by decide +kernel)
theorem dmX13_join_46 : decode cX13_join 46 = .ok (.ifCond .lt 31, 3) := dw_at cX13_join_k1 (p := 20) rfl (by decide +kernel)
theorem dmX13_join_49 : decode cX13_join 49 = .ok (.iload_n 2, 1) := dw_at cX13_join_k1 (p := 23) rfl (by decide +kernel)
theorem dmX13_join_50 : decode cX13_join 50 = .ok (.aload_n 0, 1) := dw_at cX13_join_k2 (p := 0) rfl (by decide +kernel)
theorem dmX13_join_51 : decode cX13_join 51 = .ok (.getfield 114, 3) := dw_at cX13_join_k2 (p := 1) rfl (by decide +kernel)
theorem dmX13_join_54 : decode cX13_join 54 = .ok (.getfield 44, 3) := dw_at cX13_join_k2 (p := 4) rfl (by decide +kernel)
theorem dmX13_join_57 : decode cX13_join 57 = .ok (.if_icmp .ge 20, 3) := dw_at cX13_join_k2 (p := 7) rfl (by decide +kernel)
theorem dmX13_join_60 : decode cX13_join 60 = .ok (.iload 4, 2) := dw_at cX13_join_k2 (p := 10) rfl (by decide +kernel)
theorem dmX13_join_62 : decode cX13_join 62 = .ok (.ifCond .lt 15, 3) := dw_at cX13_join_k2 (p := 12) rfl (by decide +kernel)
theorem dmX13_join_65 : decode cX13_join 65 = .ok (.iload 4, 2) := dw_at cX13_join_k2 (p := 15) rfl (by decide +kernel)
theorem dmX13_join_67 : decode cX13_join 67 = .ok (.aload_n 0, 1) := dw_at cX13_join_k2 (p := 17) rfl (by decide +kernel)
theorem dmX13_join_68 : decode cX13_join 68 = .ok (.getfield 118, 3) := dw_at cX13_join_k2 (p := 18) rfl (by decide +kernel)
theorem dmX13_join_71 : decode cX13_join 71 = .ok (.getfield 44, 3) := dw_at cX13_join_k2 (p := 21) rfl (by decide +kernel)
theorem dmX13_join_74 : decode cX13_join 74 = .ok (.if_icmp .lt 9, 3) := dw_at cX13_join_k3 (p := 0) rfl (by decide +kernel)
theorem dmX13_join_77 : decode cX13_join 77 = .ok (.aload_n 0, 1) := dw_at cX13_join_k3 (p := 3) rfl (by decide +kernel)
theorem dmX13_join_78 : decode cX13_join 78 = .ok (.iconst 1, 1) := dw_at cX13_join_k3 (p := 4) rfl (by decide +kernel)
theorem dmX13_join_79 : decode cX13_join 79 = .ok (.invokevirtual 403, 3) := dw_at cX13_join_k3 (p := 5) rfl (by decide +kernel)
theorem dmX13_join_82 : decode cX13_join 82 = .ok (.ireturn, 1) := dw_at cX13_join_k3 (p := 8) rfl (by decide +kernel)
theorem dmX13_join_83 : decode cX13_join 83 = .ok (.aload_n 0, 1) := dw_at cX13_join_k3 (p := 9) rfl (by decide +kernel)
theorem dmX13_join_84 : decode cX13_join 84 = .ok (.getfield 114, 3) := dw_at cX13_join_k3 (p := 10) rfl (by decide +kernel)
theorem dmX13_join_87 : decode cX13_join 87 = .ok (.getfield 44, 3) := dw_at cX13_join_k3 (p := 13) rfl (by decide +kernel)
theorem dmX13_join_90 : decode cX13_join 90 = .ok (.aload_n 0, 1) := dw_at cX13_join_k3 (p := 16) rfl (by decide +kernel)
theorem dmX13_join_91 : decode cX13_join 91 = .ok (.getfield 118, 3) := dw_at cX13_join_k3 (p := 17) rfl (by decide +kernel)
theorem dmX13_join_94 : decode cX13_join 94 = .ok (.getfield 44, 3) := dw_at cX13_join_k3 (p := 20) rfl (by decide +kernel)
theorem dmX13_join_97 : decode cX13_join 97 = .ok (.iadd, 1) := dw_at cX13_join_k3 (p := 23) rfl (by decide +kernel)
theorem dmX13_join_98 : decode cX13_join 98 = .ok (.bipush 24, 2) := dw_at cX13_join_k4 (p := 0) rfl (by decide +kernel)
theorem dmX13_join_100 : decode cX13_join 100 = .ok (.if_icmp .gt 25, 3) := dw_at cX13_join_k4 (p := 2) rfl (by decide +kernel)
theorem dmX13_join_103 : decode cX13_join 103 = .ok (.aload_n 0, 1) := dw_at cX13_join_k4 (p := 5) rfl (by decide +kernel)
theorem dmX13_join_104 : decode cX13_join 104 = .ok (.getfield 114, 3) := dw_at cX13_join_k4 (p := 6) rfl (by decide +kernel)
theorem dmX13_join_107 : decode cX13_join 107 = .ok (.getfield 407, 3) := dw_at cX13_join_k4 (p := 9) rfl (by decide +kernel)
theorem dmX13_join_110 : decode cX13_join 110 = .ok (.aload_n 0, 1) := dw_at cX13_join_k4 (p := 12) rfl (by decide +kernel)
theorem dmX13_join_111 : decode cX13_join 111 = .ok (.getfield 118, 3) := dw_at cX13_join_k4 (p := 13) rfl (by decide +kernel)
theorem dmX13_join_114 : decode cX13_join 114 = .ok (.getfield 407, 3) := dw_at cX13_join_k4 (p := 16) rfl (by decide +kernel)
theorem dmX13_join_117 : decode cX13_join 117 = .ok (.iadd, 1) := dw_at cX13_join_k4 (p := 19) rfl (by decide +kernel)
theorem dmX13_join_118 : decode cX13_join 118 = .ok (.iconst 1, 1) := dw_at cX13_join_k4 (p := 20) rfl (by decide +kernel)
theorem dmX13_join_119 : decode cX13_join 119 = .ok (.isub, 1) := dw_at cX13_join_k4 (p := 21) rfl (by decide +kernel)
theorem dmX13_join_120 : decode cX13_join 120 = .ok (.bipush 6, 2) := dw_at cX13_join_k4 (p := 22) rfl (by decide +kernel)
theorem dmX13_join_122 : decode cX13_join 122 = .ok (.if_icmp .le 9, 3) := dw_at cX13_join_k5 (p := 0) rfl (by decide +kernel)
theorem dmX13_join_125 : decode cX13_join 125 = .ok (.aload_n 0, 1) := dw_at cX13_join_k5 (p := 3) rfl (by decide +kernel)
theorem dmX13_join_126 : decode cX13_join 126 = .ok (.iconst 2, 1) := dw_at cX13_join_k5 (p := 4) rfl (by decide +kernel)
theorem dmX13_join_127 : decode cX13_join 127 = .ok (.invokevirtual 403, 3) := dw_at cX13_join_k5 (p := 5) rfl (by decide +kernel)
theorem dmX13_join_130 : decode cX13_join 130 = .ok (.ireturn, 1) := dw_at cX13_join_k5 (p := 8) rfl (by decide +kernel)
theorem dmX13_join_131 : decode cX13_join 131 = .ok (.aload_n 0, 1) := dw_at cX13_join_k5 (p := 9) rfl (by decide +kernel)
theorem dmX13_join_132 : decode cX13_join 132 = .ok (.invokevirtual 392, 3) := dw_at cX13_join_k5 (p := 10) rfl (by decide +kernel)
theorem dmX13_join_135 : decode cX13_join 135 = .ok (.iconst (-1), 1) := dw_at cX13_join_k5 (p := 13) rfl (by decide +kernel)
theorem dmX13_join_136 : decode cX13_join 136 = .ok (.if_icmp .ne 9, 3) := dw_at cX13_join_k5 (p := 14) rfl (by decide +kernel)
theorem dmX13_join_139 : decode cX13_join 139 = .ok (.aload_n 0, 1) := dw_at cX13_join_k5 (p := 17) rfl (by decide +kernel)
theorem dmX13_join_140 : decode cX13_join 140 = .ok (.iconst 3, 1) := dw_at cX13_join_k5 (p := 18) rfl (by decide +kernel)
theorem dmX13_join_141 : decode cX13_join 141 = .ok (.invokevirtual 403, 3) := dw_at cX13_join_k5 (p := 19) rfl (by decide +kernel)
theorem dmX13_join_144 : decode cX13_join 144 = .ok (.ireturn, 1) := dw_at cX13_join_k5 (p := 22) rfl (by decide +kernel)
theorem dmX13_join_145 : decode cX13_join 145 = .ok (.aload_n 0, 1) := dw_at cX13_join_k5 (p := 23) rfl (by decide +kernel)
theorem dmX13_join_146 : decode cX13_join 146 = .ok (.getfield 114, 3) := dw_at cX13_join_k6 (p := 0) rfl (by decide +kernel)
theorem dmX13_join_149 : decode cX13_join 149 = .ok (.getfield 44, 3) := dw_at cX13_join_k6 (p := 3) rfl (by decide +kernel)
theorem dmX13_join_152 : decode cX13_join 152 = .ok (.iconst 2, 1) := dw_at cX13_join_k6 (p := 6) rfl (by decide +kernel)
theorem dmX13_join_153 : decode cX13_join 153 = .ok (.idiv, 1) := dw_at cX13_join_k6 (p := 7) rfl (by decide +kernel)
theorem dmX13_join_154 : decode cX13_join 154 = .ok (.istore 5, 2) := dw_at cX13_join_k6 (p := 8) rfl (by decide +kernel)
theorem dmX13_join_156 : decode cX13_join 156 = .ok (.aload_n 0, 1) := dw_at cX13_join_k6 (p := 10) rfl (by decide +kernel)
theorem dmX13_join_157 : decode cX13_join 157 = .ok (.getfield 121, 3) := dw_at cX13_join_k6 (p := 11) rfl (by decide +kernel)
theorem dmX13_join_160 : decode cX13_join 160 = .ok (.invokevirtual 91, 3) := dw_at cX13_join_k6 (p := 14) rfl (by decide +kernel)
theorem dmX13_join_163 : decode cX13_join 163 = .ok (.iconst 0, 1) := dw_at cX13_join_k6 (p := 17) rfl (by decide +kernel)
theorem dmX13_join_164 : decode cX13_join 164 = .ok (.istore 6, 2) := dw_at cX13_join_k6 (p := 18) rfl (by decide +kernel)
theorem dmX13_join_166 : decode cX13_join 166 = .ok (.iload 6, 2) := dw_at cX13_join_k6 (p := 20) rfl (by decide +kernel)
theorem dmX13_join_168 : decode cX13_join 168 = .ok (.aload_n 0, 1) := dw_at cX13_join_k6 (p := 22) rfl (by decide +kernel)
theorem dmX13_join_169 : decode cX13_join 169 = .ok (.getfield 114, 3) := dw_at cX13_join_k6 (p := 23) rfl (by decide +kernel)
theorem dmX13_join_172 : decode cX13_join 172 = .ok (.getfield 407, 3) := dw_at cX13_join_k7 (p := 0) rfl (by decide +kernel)
theorem dmX13_join_175 : decode cX13_join 175 = .ok (.if_icmp .ge 137, 3) := dw_at cX13_join_k7 (p := 3) rfl (by decide +kernel)
theorem dmX13_join_178 : decode cX13_join 178 = .ok (.aload_n 0, 1) := dw_at cX13_join_k7 (p := 6) rfl (by decide +kernel)
theorem dmX13_join_179 : decode cX13_join 179 = .ok (.getfield 114, 3) := dw_at cX13_join_k7 (p := 7) rfl (by decide +kernel)
theorem dmX13_join_182 : decode cX13_join 182 = .ok (.getfield 452, 3) := dw_at cX13_join_k7 (p := 10) rfl (by decide +kernel)
theorem dmX13_join_185 : decode cX13_join 185 = .ok (.iload 6, 2) := dw_at cX13_join_k7 (p := 13) rfl (by decide +kernel)
theorem dmX13_join_187 : decode cX13_join 187 = .ok (.iaload, 1) := dw_at cX13_join_k7 (p := 15) rfl (by decide +kernel)
theorem dmX13_join_188 : decode cX13_join 188 = .ok (.istore 7, 2) := dw_at cX13_join_k7 (p := 16) rfl (by decide +kernel)
theorem dmX13_join_190 : decode cX13_join 190 = .ok (.iload 7, 2) := dw_at cX13_join_k7 (p := 18) rfl (by decide +kernel)
theorem dmX13_join_192 : decode cX13_join 192 = .ok (.aload_n 0, 1) := dw_at cX13_join_k7 (p := 20) rfl (by decide +kernel)
theorem dmX13_join_193 : decode cX13_join 193 = .ok (.getfield 114, 3) := dw_at cX13_join_k7 (p := 21) rfl (by decide +kernel)
theorem dmX13_join_196 : decode cX13_join 196 = .ok (.getfield 452, 3) := dw_at cX13_join_k8 (p := 0) rfl (by decide +kernel)
theorem dmX13_join_199 : decode cX13_join 199 = .ok (.iload 6, 2) := dw_at cX13_join_k8 (p := 3) rfl (by decide +kernel)
theorem dmX13_join_201 : decode cX13_join 201 = .ok (.iconst 1, 1) := dw_at cX13_join_k8 (p := 5) rfl (by decide +kernel)
theorem dmX13_join_202 : decode cX13_join 202 = .ok (.iadd, 1) := dw_at cX13_join_k8 (p := 6) rfl (by decide +kernel)
theorem dmX13_join_203 : decode cX13_join 203 = .ok (.iaload, 1) := dw_at cX13_join_k8 (p := 7) rfl (by decide +kernel)
theorem dmX13_join_204 : decode cX13_join 204 = .ok (.if_icmp .ge 95, 3) := dw_at cX13_join_k8 (p := 8) rfl (by decide +kernel)
theorem dmX13_join_207 : decode cX13_join 207 = .ok (.aload_n 0, 1) := dw_at cX13_join_k8 (p := 11) rfl (by decide +kernel)
theorem dmX13_join_208 : decode cX13_join 208 = .ok (.getfield 121, 3) := dw_at cX13_join_k8 (p := 12) rfl (by decide +kernel)
theorem dmX13_join_211 : decode cX13_join 211 = .ok (.aload_n 0, 1) := dw_at cX13_join_k8 (p := 15) rfl (by decide +kernel)
theorem dmX13_join_212 : decode cX13_join 212 = .ok (.getfield 114, 3) := dw_at cX13_join_k8 (p := 16) rfl (by decide +kernel)
theorem dmX13_join_215 : decode cX13_join 215 = .ok (.getfield 23, 3) := dw_at cX13_join_k8 (p := 19) rfl (by decide +kernel)
theorem dmX13_join_218 : decode cX13_join 218 = .ok (.iload 7, 2) := dw_at cX13_join_k8 (p := 22) rfl (by decide +kernel)
theorem dmX13_join_220 : decode cX13_join 220 = .ok (.iaload, 1) := dw_at cX13_join_k9 (p := 0) rfl (by decide +kernel)
theorem dmX13_join_221 : decode cX13_join 221 = .ok (.aload_n 0, 1) := dw_at cX13_join_k9 (p := 1) rfl (by decide +kernel)
theorem dmX13_join_222 : decode cX13_join 222 = .ok (.getfield 114, 3) := dw_at cX13_join_k9 (p := 2) rfl (by decide +kernel)
theorem dmX13_join_225 : decode cX13_join 225 = .ok (.getfield 32, 3) := dw_at cX13_join_k9 (p := 5) rfl (by decide +kernel)
theorem dmX13_join_228 : decode cX13_join 228 = .ok (.iload 7, 2) := dw_at cX13_join_k9 (p := 8) rfl (by decide +kernel)
theorem dmX13_join_230 : decode cX13_join 230 = .ok (.iaload, 1) := dw_at cX13_join_k9 (p := 10) rfl (by decide +kernel)
theorem dmX13_join_231 : decode cX13_join 231 = .ok (.invokevirtual 97, 3) := dw_at cX13_join_k9 (p := 11) rfl (by decide +kernel)
theorem dmX13_join_234 : decode cX13_join 234 = .ok (.iload 7, 2) := dw_at cX13_join_k9 (p := 14) rfl (by decide +kernel)
theorem dmX13_join_236 : decode cX13_join 236 = .ok (.iload_n 2, 1) := dw_at cX13_join_k9 (p := 16) rfl (by decide +kernel)
theorem dmX13_join_237 : decode cX13_join 237 = .ok (.if_icmp .ne 56, 3) := dw_at cX13_join_k9 (p := 17) rfl (by decide +kernel)
theorem dmX13_join_240 : decode cX13_join 240 = .ok (.iload 4, 2) := dw_at cX13_join_k9 (p := 20) rfl (by decide +kernel)
theorem dmX13_join_242 : decode cX13_join 242 = .ok (.istore 8, 2) := dw_at cX13_join_k9 (p := 22) rfl (by decide +kernel)
theorem dmX13_join_244 : decode cX13_join 244 = .ok (.aload_n 0, 1) := dw_at cX13_join_k10 (p := 0) rfl (by decide +kernel)
theorem dmX13_join_245 : decode cX13_join 245 = .ok (.getfield 118, 3) := dw_at cX13_join_k10 (p := 1) rfl (by decide +kernel)
theorem dmX13_join_248 : decode cX13_join 248 = .ok (.getfield 38, 3) := dw_at cX13_join_k10 (p := 4) rfl (by decide +kernel)
theorem dmX13_join_251 : decode cX13_join 251 = .ok (.iload 8, 2) := dw_at cX13_join_k10 (p := 7) rfl (by decide +kernel)
theorem dmX13_join_253 : decode cX13_join 253 = .ok (.iaload, 1) := dw_at cX13_join_k10 (p := 9) rfl (by decide +kernel)
theorem dmX13_join_254 : decode cX13_join 254 = .ok (.istore 8, 2) := dw_at cX13_join_k10 (p := 10) rfl (by decide +kernel)
theorem dmX13_join_256 : decode cX13_join 256 = .ok (.aload_n 0, 1) := dw_at cX13_join_k10 (p := 12) rfl (by decide +kernel)
theorem dmX13_join_257 : decode cX13_join 257 = .ok (.getfield 121, 3) := dw_at cX13_join_k10 (p := 13) rfl (by decide +kernel)
theorem dmX13_join_260 : decode cX13_join 260 = .ok (.aload_n 0, 1) := dw_at cX13_join_k10 (p := 16) rfl (by decide +kernel)
theorem dmX13_join_261 : decode cX13_join 261 = .ok (.getfield 118, 3) := dw_at cX13_join_k10 (p := 17) rfl (by decide +kernel)
theorem dmX13_join_264 : decode cX13_join 264 = .ok (.getfield 23, 3) := dw_at cX13_join_k10 (p := 20) rfl (by decide +kernel)
theorem dmX13_join_267 : decode cX13_join 267 = .ok (.iload 8, 2) := dw_at cX13_join_k10 (p := 23) rfl (by decide +kernel)
theorem dmX13_join_269 : decode cX13_join 269 = .ok (.iaload, 1) := dw_at cX13_join_k11 (p := 0) rfl (by decide +kernel)
theorem dmX13_join_270 : decode cX13_join 270 = .ok (.iload 5, 2) := dw_at cX13_join_k11 (p := 1) rfl (by decide +kernel)
theorem dmX13_join_272 : decode cX13_join 272 = .ok (.iadd, 1) := dw_at cX13_join_k11 (p := 3) rfl (by decide +kernel)
theorem dmX13_join_273 : decode cX13_join 273 = .ok (.aload_n 0, 1) := dw_at cX13_join_k11 (p := 4) rfl (by decide +kernel)
theorem dmX13_join_274 : decode cX13_join 274 = .ok (.getfield 118, 3) := dw_at cX13_join_k11 (p := 5) rfl (by decide +kernel)
theorem dmX13_join_277 : decode cX13_join 277 = .ok (.getfield 32, 3) := dw_at cX13_join_k11 (p := 8) rfl (by decide +kernel)
theorem dmX13_join_280 : decode cX13_join 280 = .ok (.iload 8, 2) := dw_at cX13_join_k11 (p := 11) rfl (by decide +kernel)
theorem dmX13_join_282 : decode cX13_join 282 = .ok (.iaload, 1) := dw_at cX13_join_k11 (p := 13) rfl (by decide +kernel)
theorem dmX13_join_283 : decode cX13_join 283 = .ok (.invokevirtual 97, 3) := dw_at cX13_join_k11 (p := 14) rfl (by decide +kernel)
theorem dmX13_join_286 : decode cX13_join 286 = .ok (.iload 8, 2) := dw_at cX13_join_k11 (p := 17) rfl (by decide +kernel)
theorem dmX13_join_288 : decode cX13_join 288 = .ok (.iload 4, 2) := dw_at cX13_join_k11 (p := 19) rfl (by decide +kernel)
theorem dmX13_join_290 : decode cX13_join 290 = .ok (.if_icmp .ne (-46), 3) := dw_at cX13_join_k11 (p := 21) rfl (by decide +kernel)
theorem dmX13_join_293 : decode cX13_join 293 = .ok (.iinc 7 1, 3) := dw_at cX13_join_k12 (p := 0) rfl (by decide +kernel)
theorem dmX13_join_296 : decode cX13_join 296 = .ok (.goto (-106), 3) := dw_at cX13_join_k12 (p := 3) rfl (by decide +kernel)
theorem dmX13_join_299 : decode cX13_join 299 = .ok (.aload_n 0, 1) := dw_at cX13_join_k12 (p := 6) rfl (by decide +kernel)
theorem dmX13_join_300 : decode cX13_join 300 = .ok (.getfield 121, 3) := dw_at cX13_join_k12 (p := 7) rfl (by decide +kernel)
theorem dmX13_join_303 : decode cX13_join 303 = .ok (.invokevirtual 94, 3) := dw_at cX13_join_k12 (p := 10) rfl (by decide +kernel)
theorem dmX13_join_306 : decode cX13_join 306 = .ok (.iinc 6 1, 3) := dw_at cX13_join_k12 (p := 13) rfl (by decide +kernel)
theorem dmX13_join_309 : decode cX13_join 309 = .ok (.goto (-143), 3) := dw_at cX13_join_k12 (p := 16) rfl (by decide +kernel)
theorem dmX13_join_312 : decode cX13_join 312 = .ok (.iconst 0, 1) := dw_at cX13_join_k12 (p := 19) rfl (by decide +kernel)
theorem dmX13_join_313 : decode cX13_join 313 = .ok (.istore 6, 2) := dw_at cX13_join_k12 (p := 20) rfl (by decide +kernel)
theorem dmX13_join_315 : decode cX13_join 315 = .ok (.iload 6, 2) := dw_at cX13_join_k12 (p := 22) rfl (by decide +kernel)
theorem dmX13_join_317 : decode cX13_join 317 = .ok (.aload_n 0, 1) := dw_at cX13_join_k13 (p := 0) rfl (by decide +kernel)
theorem dmX13_join_318 : decode cX13_join 318 = .ok (.getfield 118, 3) := dw_at cX13_join_k13 (p := 1) rfl (by decide +kernel)
theorem dmX13_join_321 : decode cX13_join 321 = .ok (.getfield 407, 3) := dw_at cX13_join_k13 (p := 4) rfl (by decide +kernel)
theorem dmX13_join_324 : decode cX13_join 324 = .ok (.if_icmp .ge 96, 3) := dw_at cX13_join_k13 (p := 7) rfl (by decide +kernel)
theorem dmX13_join_327 : decode cX13_join 327 = .ok (.iload 6, 2) := dw_at cX13_join_k13 (p := 10) rfl (by decide +kernel)
theorem dmX13_join_329 : decode cX13_join 329 = .ok (.aload_n 0, 1) := dw_at cX13_join_k13 (p := 12) rfl (by decide +kernel)
theorem dmX13_join_330 : decode cX13_join 330 = .ok (.getfield 118, 3) := dw_at cX13_join_k13 (p := 13) rfl (by decide +kernel)
theorem dmX13_join_333 : decode cX13_join 333 = .ok (.getfield 18, 3) := dw_at cX13_join_k13 (p := 16) rfl (by decide +kernel)
theorem dmX13_join_336 : decode cX13_join 336 = .ok (.iload 4, 2) := dw_at cX13_join_k13 (p := 19) rfl (by decide +kernel)
theorem dmX13_join_338 : decode cX13_join 338 = .ok (.iaload, 1) := dw_at cX13_join_k13 (p := 21) rfl (by decide +kernel)
theorem dmX13_join_339 : decode cX13_join 339 = .ok (.if_icmp .eq 75, 3) := dw_at cX13_join_k13 (p := 22) rfl (by decide +kernel)
theorem dmX13_join_342 : decode cX13_join 342 = .ok (.aload_n 0, 1) := dw_at cX13_join_k14 (p := 0) rfl (by decide +kernel)
theorem dmX13_join_343 : decode cX13_join 343 = .ok (.getfield 118, 3) := dw_at cX13_join_k14 (p := 1) rfl (by decide +kernel)
theorem dmX13_join_346 : decode cX13_join 346 = .ok (.getfield 452, 3) := dw_at cX13_join_k14 (p := 4) rfl (by decide +kernel)
theorem dmX13_join_349 : decode cX13_join 349 = .ok (.iload 6, 2) := dw_at cX13_join_k14 (p := 7) rfl (by decide +kernel)
theorem dmX13_join_351 : decode cX13_join 351 = .ok (.iaload, 1) := dw_at cX13_join_k14 (p := 9) rfl (by decide +kernel)
theorem dmX13_join_352 : decode cX13_join 352 = .ok (.istore 7, 2) := dw_at cX13_join_k14 (p := 10) rfl (by decide +kernel)
theorem dmX13_join_354 : decode cX13_join 354 = .ok (.iload 7, 2) := dw_at cX13_join_k14 (p := 12) rfl (by decide +kernel)
theorem dmX13_join_356 : decode cX13_join 356 = .ok (.aload_n 0, 1) := dw_at cX13_join_k14 (p := 14) rfl (by decide +kernel)
theorem dmX13_join_357 : decode cX13_join 357 = .ok (.getfield 118, 3) := dw_at cX13_join_k14 (p := 15) rfl (by decide +kernel)
theorem dmX13_join_360 : decode cX13_join 360 = .ok (.getfield 452, 3) := dw_at cX13_join_k14 (p := 18) rfl (by decide +kernel)
theorem dmX13_join_363 : decode cX13_join 363 = .ok (.iload 6, 2) := dw_at cX13_join_k14 (p := 21) rfl (by decide +kernel)
theorem dmX13_join_365 : decode cX13_join 365 = .ok (.iconst 1, 1) := dw_at cX13_join_k14 (p := 23) rfl (by decide +kernel)
theorem dmX13_join_366 : decode cX13_join 366 = .ok (.iadd, 1) := dw_at cX13_join_k15 (p := 0) rfl (by decide +kernel)
theorem dmX13_join_367 : decode cX13_join 367 = .ok (.iaload, 1) := dw_at cX13_join_k15 (p := 1) rfl (by decide +kernel)
theorem dmX13_join_368 : decode cX13_join 368 = .ok (.if_icmp .ge 39, 3) := dw_at cX13_join_k15 (p := 2) rfl (by decide +kernel)
theorem dmX13_join_371 : decode cX13_join 371 = .ok (.aload_n 0, 1) := dw_at cX13_join_k15 (p := 5) rfl (by decide +kernel)
theorem dmX13_join_372 : decode cX13_join 372 = .ok (.getfield 121, 3) := dw_at cX13_join_k15 (p := 6) rfl (by decide +kernel)
theorem dmX13_join_375 : decode cX13_join 375 = .ok (.aload_n 0, 1) := dw_at cX13_join_k15 (p := 9) rfl (by decide +kernel)
theorem dmX13_join_376 : decode cX13_join 376 = .ok (.getfield 118, 3) := dw_at cX13_join_k15 (p := 10) rfl (by decide +kernel)
theorem dmX13_join_379 : decode cX13_join 379 = .ok (.getfield 23, 3) := dw_at cX13_join_k15 (p := 13) rfl (by decide +kernel)
theorem dmX13_join_382 : decode cX13_join 382 = .ok (.iload 7, 2) := dw_at cX13_join_k15 (p := 16) rfl (by decide +kernel)
theorem dmX13_join_384 : decode cX13_join 384 = .ok (.iaload, 1) := dw_at cX13_join_k15 (p := 18) rfl (by decide +kernel)
theorem dmX13_join_385 : decode cX13_join 385 = .ok (.iload 5, 2) := dw_at cX13_join_k15 (p := 19) rfl (by decide +kernel)
theorem dmX13_join_387 : decode cX13_join 387 = .ok (.iadd, 1) := dw_at cX13_join_k15 (p := 21) rfl (by decide +kernel)
theorem dmX13_join_388 : decode cX13_join 388 = .ok (.aload_n 0, 1) := dw_at cX13_join_k15 (p := 22) rfl (by decide +kernel)
theorem dmX13_join_389 : decode cX13_join 389 = .ok (.getfield 118, 3) := dw_at cX13_join_k15 (p := 23) rfl (by decide +kernel)
theorem dmX13_join_392 : decode cX13_join 392 = .ok (.getfield 32, 3) := dw_at cX13_join_k16 (p := 0) rfl (by decide +kernel)
theorem dmX13_join_395 : decode cX13_join 395 = .ok (.iload 7, 2) := dw_at cX13_join_k16 (p := 3) rfl (by decide +kernel)
theorem dmX13_join_397 : decode cX13_join 397 = .ok (.iaload, 1) := dw_at cX13_join_k16 (p := 5) rfl (by decide +kernel)
theorem dmX13_join_398 : decode cX13_join 398 = .ok (.invokevirtual 97, 3) := dw_at cX13_join_k16 (p := 6) rfl (by decide +kernel)
theorem dmX13_join_401 : decode cX13_join 401 = .ok (.iinc 7 1, 3) := dw_at cX13_join_k16 (p := 9) rfl (by decide +kernel)
theorem dmX13_join_404 : decode cX13_join 404 = .ok (.goto (-50), 3) := dw_at cX13_join_k16 (p := 12) rfl (by decide +kernel)
theorem dmX13_join_407 : decode cX13_join 407 = .ok (.aload_n 0, 1) := dw_at cX13_join_k16 (p := 15) rfl (by decide +kernel)
theorem dmX13_join_408 : decode cX13_join 408 = .ok (.getfield 121, 3) := dw_at cX13_join_k16 (p := 16) rfl (by decide +kernel)
theorem dmX13_join_411 : decode cX13_join 411 = .ok (.invokevirtual 94, 3) := dw_at cX13_join_k16 (p := 19) rfl (by decide +kernel)
theorem dmX13_join_414 : decode cX13_join 414 = .ok (.iinc 6 1, 3) := dw_at cX13_join_k16 (p := 22) rfl (by decide +kernel)
theorem dmX13_join_417 : decode cX13_join 417 = .ok (.goto (-102), 3) := dw_at cX13_join_k17 (p := 0) rfl (by decide +kernel)
theorem dmX13_join_420 : decode cX13_join 420 = .ok (.iconst 0, 1) := dw_at cX13_join_k17 (p := 3) rfl (by decide +kernel)
theorem dmX13_join_421 : decode cX13_join 421 = .ok (.istore 6, 2) := dw_at cX13_join_k17 (p := 4) rfl (by decide +kernel)
theorem dmX13_join_423 : decode cX13_join 423 = .ok (.iload 6, 2) := dw_at cX13_join_k17 (p := 6) rfl (by decide +kernel)
theorem dmX13_join_425 : decode cX13_join 425 = .ok (.bipush 20, 2) := dw_at cX13_join_k17 (p := 8) rfl (by decide +kernel)
theorem dmX13_join_427 : decode cX13_join 427 = .ok (.if_icmp .ge 52, 3) := dw_at cX13_join_k17 (p := 10) rfl (by decide +kernel)
theorem dmX13_join_430 : decode cX13_join 430 = .ok (.aload_n 0, 1) := dw_at cX13_join_k17 (p := 13) rfl (by decide +kernel)
theorem dmX13_join_431 : decode cX13_join 431 = .ok (.getfield 121, 3) := dw_at cX13_join_k17 (p := 14) rfl (by decide +kernel)
theorem dmX13_join_434 : decode cX13_join 434 = .ok (.getfield 35, 3) := dw_at cX13_join_k17 (p := 17) rfl (by decide +kernel)
theorem dmX13_join_437 : decode cX13_join 437 = .ok (.iload 6, 2) := dw_at cX13_join_k17 (p := 20) rfl (by decide +kernel)
theorem dmX13_join_439 : decode cX13_join 439 = .ok (.iload 6, 2) := dw_at cX13_join_k17 (p := 22) rfl (by decide +kernel)
theorem dmX13_join_441 : decode cX13_join 441 = .ok (.iload 5, 2) := dw_at cX13_join_k18 (p := 0) rfl (by decide +kernel)
theorem dmX13_join_443 : decode cX13_join 443 = .ok (.if_icmp .ge 16, 3) := dw_at cX13_join_k18 (p := 2) rfl (by decide +kernel)
theorem dmX13_join_446 : decode cX13_join 446 = .ok (.aload_n 0, 1) := dw_at cX13_join_k18 (p := 5) rfl (by decide +kernel)
theorem dmX13_join_447 : decode cX13_join 447 = .ok (.getfield 114, 3) := dw_at cX13_join_k18 (p := 6) rfl (by decide +kernel)
theorem dmX13_join_450 : decode cX13_join 450 = .ok (.getfield 35, 3) := dw_at cX13_join_k18 (p := 9) rfl (by decide +kernel)
theorem dmX13_join_453 : decode cX13_join 453 = .ok (.iload 6, 2) := dw_at cX13_join_k18 (p := 12) rfl (by decide +kernel)
theorem dmX13_join_455 : decode cX13_join 455 = .ok (.iaload, 1) := dw_at cX13_join_k18 (p := 14) rfl (by decide +kernel)
theorem dmX13_join_456 : decode cX13_join 456 = .ok (.goto 16, 3) := dw_at cX13_join_k18 (p := 15) rfl (by decide +kernel)
theorem dmX13_join_459 : decode cX13_join 459 = .ok (.aload_n 0, 1) := dw_at cX13_join_k18 (p := 18) rfl (by decide +kernel)
theorem dmX13_join_460 : decode cX13_join 460 = .ok (.getfield 118, 3) := dw_at cX13_join_k18 (p := 19) rfl (by decide +kernel)
theorem dmX13_join_463 : decode cX13_join 463 = .ok (.getfield 35, 3) := dw_at cX13_join_k18 (p := 22) rfl (by decide +kernel)
theorem dmX13_join_466 : decode cX13_join 466 = .ok (.iload 6, 2) := dw_at cX13_join_k19 (p := 0) rfl (by decide +kernel)
theorem dmX13_join_468 : decode cX13_join 468 = .ok (.iload 5, 2) := dw_at cX13_join_k19 (p := 2) rfl (by decide +kernel)
theorem dmX13_join_470 : decode cX13_join 470 = .ok (.isub, 1) := dw_at cX13_join_k19 (p := 4) rfl (by decide +kernel)
theorem dmX13_join_471 : decode cX13_join 471 = .ok (.iaload, 1) := dw_at cX13_join_k19 (p := 5) rfl (by decide +kernel)
theorem dmX13_join_472 : decode cX13_join 472 = .ok (.iastore, 1) := dw_at cX13_join_k19 (p := 6) rfl (by decide +kernel)
theorem dmX13_join_473 : decode cX13_join 473 = .ok (.iinc 6 1, 3) := dw_at cX13_join_k19 (p := 7) rfl (by decide +kernel)
theorem dmX13_join_476 : decode cX13_join 476 = .ok (.goto (-53), 3) := dw_at cX13_join_k19 (p := 10) rfl (by decide +kernel)
theorem dmX13_join_479 : decode cX13_join 479 = .ok (.aload_n 0, 1) := dw_at cX13_join_k19 (p := 13) rfl (by decide +kernel)
theorem dmX13_join_480 : decode cX13_join 480 = .ok (.invokevirtual 420, 3) := dw_at cX13_join_k19 (p := 14) rfl (by decide +kernel)
theorem dmX13_join_483 : decode cX13_join 483 = .ok (.ireturn, 1) := dw_at cX13_join_k19 (p := 17) rfl (by decide +kernel)
def qm_X13_join_0 (K : Nat) (go : Nat → Int32 → Int32 → Int32 → Int32 → Int32 → Int32 → Int32 → Int32 → Int32 → Int32 → ow_MS → Option (Int32 × ow_MS)) (x1 : Int32) (x2 : Int32) (x3 : Int32) (x4 : Int32) (x5 : Int32) (x6 : Int32) (x7 : Int32) (x8 : Int32) (t0 : Int32) (t1 : Int32) (z : ow_MS) : Option (Int32 × ow_MS) :=
 wrF z 1 0 fun z1 => cs1 (qe_X13_has K x1 z1) fun v3 z2 => (if v3 = 0 then go 1 x1 x2 x3 x4 0 0 0 0 0 0 z2
 else cs1 (qe_X13_has K x3 z2) fun v5 z4 => (if v5 = 0 then go 1 x1 x2 x3 x4 0 0 0 0 0 0 z4
 else cs0 (qe_X13_open K x1 1000 z4) fun z6 => cs0 (qe_X13_open K x3 2000 z6) fun z7 => (if x2 < 0 then go 2 x1 x2 x3 x4 0 0 0 0 0 0 z7
 else rdF z7 (1000 + 1) fun v8 => (if v8 ≤ x2 then go 2 x1 x2 x3 x4 0 0 0 0 0 0 z7
 else (if x4 < 0 then go 2 x1 x2 x3 x4 0 0 0 0 0 0 z7
 else rdF z7 (2000 + 1) fun v9 => (if x4 < v9 then rdF z7 (1000 + 1) fun v10 => rdF z7 (2000 + 1) fun v11 => (if 24 < (v10 + v11) then go 3 x1 x2 x3 x4 0 0 0 0 0 0 z7
 else rdF z7 (1000 + 2) fun v12 => rdF z7 (2000 + 2) fun v13 => (if ((v12 + v13) - 1) ≤ 6 then cs1 (qe_X13_free K z7) fun v15 z14 => (if v15 = (-1) then cs1 (qe_X13_fails K 3 z14) fun v19 z18 => some (v19, z18)
 else rdF z14 (1000 + 1) fun v16 => nzI 2 (cs0 (qe_X12_clear K 3000 z14) fun z17 => go 4 x1 x2 x3 x4 (v16 / 2) 0 0 0 0 0 z17))
 else go 3 x1 x2 x3 x4 0 0 0 0 0 0 z7))
 else go 2 x1 x2 x3 x4 0 0 0 0 0 0 z7))))))
def qm_X13_join_1 (K : Nat) (go : Nat → Int32 → Int32 → Int32 → Int32 → Int32 → Int32 → Int32 → Int32 → Int32 → Int32 → ow_MS → Option (Int32 × ow_MS)) (x1 : Int32) (x2 : Int32) (x3 : Int32) (x4 : Int32) (x5 : Int32) (x6 : Int32) (x7 : Int32) (x8 : Int32) (t0 : Int32) (t1 : Int32) (z : ow_MS) : Option (Int32 × ow_MS) :=
 cs1 (qe_X13_fails K 1 z) fun v21 z20 => some (v21, z20)
def qm_X13_join_2 (K : Nat) (go : Nat → Int32 → Int32 → Int32 → Int32 → Int32 → Int32 → Int32 → Int32 → Int32 → Int32 → ow_MS → Option (Int32 × ow_MS)) (x1 : Int32) (x2 : Int32) (x3 : Int32) (x4 : Int32) (x5 : Int32) (x6 : Int32) (x7 : Int32) (x8 : Int32) (t0 : Int32) (t1 : Int32) (z : ow_MS) : Option (Int32 × ow_MS) :=
 cs1 (qe_X13_fails K 1 z) fun v23 z22 => some (v23, z22)
def qm_X13_join_3 (K : Nat) (go : Nat → Int32 → Int32 → Int32 → Int32 → Int32 → Int32 → Int32 → Int32 → Int32 → Int32 → ow_MS → Option (Int32 × ow_MS)) (x1 : Int32) (x2 : Int32) (x3 : Int32) (x4 : Int32) (x5 : Int32) (x6 : Int32) (x7 : Int32) (x8 : Int32) (t0 : Int32) (t1 : Int32) (z : ow_MS) : Option (Int32 × ow_MS) :=
 cs1 (qe_X13_fails K 2 z) fun v25 z24 => some (v25, z24)
def qm_X13_join_4 (K : Nat) (go : Nat → Int32 → Int32 → Int32 → Int32 → Int32 → Int32 → Int32 → Int32 → Int32 → Int32 → ow_MS → Option (Int32 × ow_MS)) (x1 : Int32) (x2 : Int32) (x3 : Int32) (x4 : Int32) (x5 : Int32) (x6 : Int32) (x7 : Int32) (x8 : Int32) (t0 : Int32) (t1 : Int32) (z : ow_MS) : Option (Int32 × ow_MS) :=
 rdF z (1000 + 2) fun v26 => (if v26 ≤ x6 then go 8 x1 x2 x3 x4 x5 0 0 0 0 0 z
 else rdI mX z (1000 + 3) x6 fun v27 => go 5 x1 x2 x3 x4 x5 x6 v27 0 0 0 z)
def qm_X13_join_5 (K : Nat) (go : Nat → Int32 → Int32 → Int32 → Int32 → Int32 → Int32 → Int32 → Int32 → Int32 → Int32 → ow_MS → Option (Int32 × ow_MS)) (x1 : Int32) (x2 : Int32) (x3 : Int32) (x4 : Int32) (x5 : Int32) (x6 : Int32) (x7 : Int32) (x8 : Int32) (t0 : Int32) (t1 : Int32) (z : ow_MS) : Option (Int32 × ow_MS) :=
 rdI mX z (1000 + 3) (x6 + 1) fun v28 => (if v28 ≤ x7 then cs0 (qe_X12_end K 3000 z) fun z29 => go 4 x1 x2 x3 x4 x5 (x6 + 1) 0 0 0 0 z29
 else rdI mX z (1000 + 4) x7 fun v30 => rdI mX z (1000 + 5) x7 fun v31 => cs0 (qe_X12_add K 3000 v30 v31 z) fun z32 => (if x7 = x2 then go 6 x1 x2 x3 x4 x5 x6 x7 x4 0 0 z32
 else go 7 x1 x2 x3 x4 x5 x6 x7 0 0 0 z32))
def qm_X13_join_6 (K : Nat) (go : Nat → Int32 → Int32 → Int32 → Int32 → Int32 → Int32 → Int32 → Int32 → Int32 → Int32 → ow_MS → Option (Int32 × ow_MS)) (x1 : Int32) (x2 : Int32) (x3 : Int32) (x4 : Int32) (x5 : Int32) (x6 : Int32) (x7 : Int32) (x8 : Int32) (t0 : Int32) (t1 : Int32) (z : ow_MS) : Option (Int32 × ow_MS) :=
 rdI mX z (2000 + 9) x8 fun v33 => rdI mX z (2000 + 4) v33 fun v34 => rdI mX z (2000 + 5) v33 fun v35 => cs0 (qe_X12_add K 3000 (v34 + x5) v35 z) fun z36 => (if v33 = x4 then go 7 x1 x2 x3 x4 x5 x6 x7 0 0 0 z36
 else go 6 x1 x2 x3 x4 x5 x6 x7 v33 0 0 z36)
def qm_X13_join_7 (K : Nat) (go : Nat → Int32 → Int32 → Int32 → Int32 → Int32 → Int32 → Int32 → Int32 → Int32 → Int32 → ow_MS → Option (Int32 × ow_MS)) (x1 : Int32) (x2 : Int32) (x3 : Int32) (x4 : Int32) (x5 : Int32) (x6 : Int32) (x7 : Int32) (x8 : Int32) (t0 : Int32) (t1 : Int32) (z : ow_MS) : Option (Int32 × ow_MS) :=
 go 5 x1 x2 x3 x4 x5 x6 (x7 + 1) 0 0 0 z
def qm_X13_join_8 (K : Nat) (go : Nat → Int32 → Int32 → Int32 → Int32 → Int32 → Int32 → Int32 → Int32 → Int32 → Int32 → ow_MS → Option (Int32 × ow_MS)) (x1 : Int32) (x2 : Int32) (x3 : Int32) (x4 : Int32) (x5 : Int32) (x6 : Int32) (x7 : Int32) (x8 : Int32) (t0 : Int32) (t1 : Int32) (z : ow_MS) : Option (Int32 × ow_MS) :=
 rdF z (2000 + 2) fun v37 => (if v37 ≤ x6 then go 11 x1 x2 x3 x4 x5 0 0 0 0 0 z
 else rdI mX z (2000 + 8) x4 fun v38 => (if x6 = v38 then go 10 x1 x2 x3 x4 x5 x6 0 0 0 0 z
 else rdI mX z (2000 + 3) x6 fun v39 => go 9 x1 x2 x3 x4 x5 x6 v39 0 0 0 z))
def qm_X13_join_9 (K : Nat) (go : Nat → Int32 → Int32 → Int32 → Int32 → Int32 → Int32 → Int32 → Int32 → Int32 → Int32 → ow_MS → Option (Int32 × ow_MS)) (x1 : Int32) (x2 : Int32) (x3 : Int32) (x4 : Int32) (x5 : Int32) (x6 : Int32) (x7 : Int32) (x8 : Int32) (t0 : Int32) (t1 : Int32) (z : ow_MS) : Option (Int32 × ow_MS) :=
 rdI mX z (2000 + 3) (x6 + 1) fun v40 => (if v40 ≤ x7 then cs0 (qe_X12_end K 3000 z) fun z41 => go 10 x1 x2 x3 x4 x5 x6 0 0 0 0 z41
 else rdI mX z (2000 + 4) x7 fun v42 => rdI mX z (2000 + 5) x7 fun v43 => cs0 (qe_X12_add K 3000 (v42 + x5) v43 z) fun z44 => go 9 x1 x2 x3 x4 x5 x6 (x7 + 1) 0 0 0 z44)
def qm_X13_join_10 (K : Nat) (go : Nat → Int32 → Int32 → Int32 → Int32 → Int32 → Int32 → Int32 → Int32 → Int32 → Int32 → ow_MS → Option (Int32 × ow_MS)) (x1 : Int32) (x2 : Int32) (x3 : Int32) (x4 : Int32) (x5 : Int32) (x6 : Int32) (x7 : Int32) (x8 : Int32) (t0 : Int32) (t1 : Int32) (z : ow_MS) : Option (Int32 × ow_MS) :=
 go 8 x1 x2 x3 x4 x5 (x6 + 1) 0 0 0 0 z
def qm_X13_join_11 (K : Nat) (go : Nat → Int32 → Int32 → Int32 → Int32 → Int32 → Int32 → Int32 → Int32 → Int32 → Int32 → ow_MS → Option (Int32 × ow_MS)) (x1 : Int32) (x2 : Int32) (x3 : Int32) (x4 : Int32) (x5 : Int32) (x6 : Int32) (x7 : Int32) (x8 : Int32) (t0 : Int32) (t1 : Int32) (z : ow_MS) : Option (Int32 × ow_MS) :=
 (if 20 ≤ x6 then cs1 (qe_X13_keep K z) fun v46 z45 => some (v46, z45)
 else (if x5 ≤ x6 then rdI mX z (2000 + 6) (x6 - x5) fun v47 => go 12 x1 x2 x3 x4 x5 x6 0 0 v47 x6 z
 else rdI mX z (1000 + 6) x6 fun v48 => go 12 x1 x2 x3 x4 x5 x6 0 0 v48 x6 z))
def qm_X13_join_12 (K : Nat) (go : Nat → Int32 → Int32 → Int32 → Int32 → Int32 → Int32 → Int32 → Int32 → Int32 → Int32 → ow_MS → Option (Int32 × ow_MS)) (x1 : Int32) (x2 : Int32) (x3 : Int32) (x4 : Int32) (x5 : Int32) (x6 : Int32) (x7 : Int32) (x8 : Int32) (t0 : Int32) (t1 : Int32) (z : ow_MS) : Option (Int32 × ow_MS) :=
 wrI mX z (3000 + 6) t1 t0 fun z49 => go 11 x1 x2 x3 x4 x5 (x6 + 1) 0 0 0 0 z49
def qb_X13_join (K : Nat) (go : Nat → Int32 → Int32 → Int32 → Int32 → Int32 → Int32 → Int32 → Int32 → Int32 → Int32 → ow_MS → Option (Int32 × ow_MS)) (L : Nat) (x1 : Int32) (x2 : Int32) (x3 : Int32) (x4 : Int32) (x5 : Int32) (x6 : Int32) (x7 : Int32) (x8 : Int32) (t0 : Int32) (t1 : Int32) (z : ow_MS) : Option (Int32 × ow_MS) := match L with
  | 0 => qm_X13_join_0 K go x1 x2 x3 x4 x5 x6 x7 x8 t0 t1 z
  | 1 => qm_X13_join_1 K go x1 x2 x3 x4 x5 x6 x7 x8 t0 t1 z
  | 2 => qm_X13_join_2 K go x1 x2 x3 x4 x5 x6 x7 x8 t0 t1 z
  | 3 => qm_X13_join_3 K go x1 x2 x3 x4 x5 x6 x7 x8 t0 t1 z
  | 4 => qm_X13_join_4 K go x1 x2 x3 x4 x5 x6 x7 x8 t0 t1 z
  | 5 => qm_X13_join_5 K go x1 x2 x3 x4 x5 x6 x7 x8 t0 t1 z
  | 6 => qm_X13_join_6 K go x1 x2 x3 x4 x5 x6 x7 x8 t0 t1 z
  | 7 => qm_X13_join_7 K go x1 x2 x3 x4 x5 x6 x7 x8 t0 t1 z
  | 8 => qm_X13_join_8 K go x1 x2 x3 x4 x5 x6 x7 x8 t0 t1 z
  | 9 => qm_X13_join_9 K go x1 x2 x3 x4 x5 x6 x7 x8 t0 t1 z
  | 10 => qm_X13_join_10 K go x1 x2 x3 x4 x5 x6 x7 x8 t0 t1 z
  | 11 => qm_X13_join_11 K go x1 x2 x3 x4 x5 x6 x7 x8 t0 t1 z
  | 12 => qm_X13_join_12 K go x1 x2 x3 x4 x5 x6 x7 x8 t0 t1 z
  | _ => none
def q_X13_join (K : Nat) : Nat → Nat → Int32 → Int32 → Int32 → Int32 → Int32 → Int32 → Int32 → Int32 → Int32 → Int32 → ow_MS → Option (Int32 × ow_MS)
  | 0 => fun _ _ _ _ _ _ _ _ _ _ _ _ => none
  | k + 1 => qb_X13_join K (q_X13_join K k)
def qe_X13_join (K : Nat) (x1 : Int32) (x2 : Int32) (x3 : Int32) (x4 : Int32) (z : ow_MS) : Option (Int32 × ow_MS) := q_X13_join K K 0 x1 x2 x3 x4 0 0 0 0 0 0 z
abbrev wm_X13_join : List Cond := .code yX13_join cX13_join 9 (some .int) :: wM
theorem cd_X13_join : yX13_join.cls = RX13 ∧ yX13_join.cls ≠ "java/lang/invoke/MethodHandle" ∧ yX13_join.cls ≠ "java/lang/invoke/VarHandle" ∧ (parseMethodDescriptor yX13_join.desc).map (fun d => d.parameters.length) = some 4 := by decide +kernel
set_option maxHeartbeats 4000000 in
set_option maxRecDepth 100000 in
theorem km_X13_join (l : Launch) (D : va_G) (q : ow_Q5) (u : Nat → Nat) (hU : tw_inj mX u) (K : Nat) (x1 : Int32) (x2 : Int32) (x3 : Int32) (x4 : Int32)  (z z1 : ow_MS) (r : Int32) (hq : qe_X13_join K x1 x2 x3 x4 z = some (r, z1)) : Met l yX13_join wm_X13_join ({ frames := 5, cells := 0, slots := 0, locals := 132 } : Room) (va_Pc [.ref (u 0), .int x1, .int x2, .int x3, .int x4] (mw_pre D q u z)) (va_Qi (fun x (_ : Unit) => x = r) (fun _ t => va_P D vwCl (tw mX q u z1) t.heap) (tw_A mX u)) 0 0 (tw_A mX u) := by
  refine Met.ofW (cc := cX13_join) (maxL := 9) (ret := (some .int)) (by decide) rfl ?_
  intro p e s m args below meth c s₁ B hml hv
  obtain ⟨rfl, hP, hK, hN⟩ := hv
  have hx := B.exec
  have hb := B.bytes
  have hr := B.returns
  have hts := atoms_spec (ws := wm_X13_join) B.pre
  have hT : ∀ w ∈ wM, w.before ([.ref (u 0), .int x1, .int x2, .int x3, .int x4] : List Value).toArray s = true := fun w h => hts w (List.mem_cons_of_mem _ h)
  have hown : s.vm.findClass RX13 = some m.cls := findClass_of_methodNamed B.named
  have hlocks := B.notSynchronized
  have hM : tw_M D vwCl mX q s.heap u z s.heap [] := ⟨hP, va_S.rf⟩
  have hl := lv_entry ([.ref (u 0), .int x1, .int x2, .int x3, .int x4]) (n := 9) (Nat.le_of_ble_eq_true rfl)
  rw [lg_entry_eq]
  generalize (lg_sl ([.ref (u 0), .int x1, .int x2, .int x3, .int x4]) ++ List.replicate (9 - (lg_sl ([.ref (u 0), .int x1, .int x2, .int x3, .int x4])).length) Slot.unset).toArray = ls at hl ⊢
  have hl : lv_has ls 9 [(0, .ref (u 0)), (1, .int x1), (2, .int x2), (3, .int x3), (4, .int x4)] := hl
  refine ow_named (fun QQ hQQ => ?_)
  generalize ([.ref (u 0), .int x1, .int x2, .int x3, .int x4] : List Value).toArray = args at hts hT hQQ ⊢
  have key : ∀ k : Nat, (∀ (x1 : Int32) (x2 : Int32) (x3 : Int32) (x4 : Int32) (x5 : Int32) (x6 : Int32) (x7 : Int32) (x8 : Int32) (t0 : Int32) (t1 : Int32) (z : ow_MS) (H : Heap) (locs : List Loc) (ls : Array Slot), tw_M D vwCl mX q s.heap u z H locs → lv_has ls 9 [(0, .ref (u 0)), (1, .int x1), (2, .int x2), (3, .int x3), (4, .int x4)] → q_X13_join K k 0 x1 x2 x3 x4 x5 x6 x7 x8 t0 t1 z = some (r, z1) → W p l e ({ frames := 5, cells := 0, slots := 0, locals := 132 } : Room) s m args below meth c H locs 0 0 QQ (F0 m 0 ls [])) ∧ (∀ (x1 : Int32) (x2 : Int32) (x3 : Int32) (x4 : Int32) (x5 : Int32) (x6 : Int32) (x7 : Int32) (x8 : Int32) (t0 : Int32) (t1 : Int32) (z : ow_MS) (H : Heap) (locs : List Loc) (ls : Array Slot), tw_M D vwCl mX q s.heap u z H locs → lv_has ls 9 [(0, .ref (u 0)), (1, .int x1), (2, .int x2), (3, .int x3), (4, .int x4)] → q_X13_join K k 1 x1 x2 x3 x4 x5 x6 x7 x8 t0 t1 z = some (r, z1) → W p l e ({ frames := 5, cells := 0, slots := 0, locals := 132 } : Room) s m args below meth c H locs 0 0 QQ (F0 m 21 ls [])) ∧ (∀ (x1 : Int32) (x2 : Int32) (x3 : Int32) (x4 : Int32) (x5 : Int32) (x6 : Int32) (x7 : Int32) (x8 : Int32) (t0 : Int32) (t1 : Int32) (z : ow_MS) (H : Heap) (locs : List Loc) (ls : Array Slot), tw_M D vwCl mX q s.heap u z H locs → lv_has ls 9 [(0, .ref (u 0)), (1, .int x1), (2, .int x2), (3, .int x3), (4, .int x4)] → q_X13_join K k 2 x1 x2 x3 x4 x5 x6 x7 x8 t0 t1 z = some (r, z1) → W p l e ({ frames := 5, cells := 0, slots := 0, locals := 132 } : Room) s m args below meth c H locs 0 0 QQ (F0 m 77 ls [])) ∧ (∀ (x1 : Int32) (x2 : Int32) (x3 : Int32) (x4 : Int32) (x5 : Int32) (x6 : Int32) (x7 : Int32) (x8 : Int32) (t0 : Int32) (t1 : Int32) (z : ow_MS) (H : Heap) (locs : List Loc) (ls : Array Slot), tw_M D vwCl mX q s.heap u z H locs → lv_has ls 9 [(0, .ref (u 0)), (1, .int x1), (2, .int x2), (3, .int x3), (4, .int x4)] → q_X13_join K k 3 x1 x2 x3 x4 x5 x6 x7 x8 t0 t1 z = some (r, z1) → W p l e ({ frames := 5, cells := 0, slots := 0, locals := 132 } : Room) s m args below meth c H locs 0 0 QQ (F0 m 125 ls [])) ∧ (∀ (x1 : Int32) (x2 : Int32) (x3 : Int32) (x4 : Int32) (x5 : Int32) (x6 : Int32) (x7 : Int32) (x8 : Int32) (t0 : Int32) (t1 : Int32) (z : ow_MS) (H : Heap) (locs : List Loc) (ls : Array Slot), tw_M D vwCl mX q s.heap u z H locs → lv_has ls 9 [(0, .ref (u 0)), (1, .int x1), (2, .int x2), (3, .int x3), (4, .int x4), (5, .int x5), (6, .int x6)] → q_X13_join K k 4 x1 x2 x3 x4 x5 x6 x7 x8 t0 t1 z = some (r, z1) → W p l e ({ frames := 5, cells := 0, slots := 0, locals := 132 } : Room) s m args below meth c H locs 0 0 QQ (F0 m 166 ls [])) ∧ (∀ (x1 : Int32) (x2 : Int32) (x3 : Int32) (x4 : Int32) (x5 : Int32) (x6 : Int32) (x7 : Int32) (x8 : Int32) (t0 : Int32) (t1 : Int32) (z : ow_MS) (H : Heap) (locs : List Loc) (ls : Array Slot), tw_M D vwCl mX q s.heap u z H locs → lv_has ls 9 [(0, .ref (u 0)), (1, .int x1), (2, .int x2), (3, .int x3), (4, .int x4), (5, .int x5), (6, .int x6), (7, .int x7)] → q_X13_join K k 5 x1 x2 x3 x4 x5 x6 x7 x8 t0 t1 z = some (r, z1) → W p l e ({ frames := 5, cells := 0, slots := 0, locals := 132 } : Room) s m args below meth c H locs 0 0 QQ (F0 m 190 ls [])) ∧ (∀ (x1 : Int32) (x2 : Int32) (x3 : Int32) (x4 : Int32) (x5 : Int32) (x6 : Int32) (x7 : Int32) (x8 : Int32) (t0 : Int32) (t1 : Int32) (z : ow_MS) (H : Heap) (locs : List Loc) (ls : Array Slot), tw_M D vwCl mX q s.heap u z H locs → lv_has ls 9 [(0, .ref (u 0)), (1, .int x1), (2, .int x2), (3, .int x3), (4, .int x4), (5, .int x5), (6, .int x6), (7, .int x7), (8, .int x8)] → q_X13_join K k 6 x1 x2 x3 x4 x5 x6 x7 x8 t0 t1 z = some (r, z1) → W p l e ({ frames := 5, cells := 0, slots := 0, locals := 132 } : Room) s m args below meth c H locs 0 0 QQ (F0 m 244 ls [])) ∧ (∀ (x1 : Int32) (x2 : Int32) (x3 : Int32) (x4 : Int32) (x5 : Int32) (x6 : Int32) (x7 : Int32) (x8 : Int32) (t0 : Int32) (t1 : Int32) (z : ow_MS) (H : Heap) (locs : List Loc) (ls : Array Slot), tw_M D vwCl mX q s.heap u z H locs → lv_has ls 9 [(0, .ref (u 0)), (1, .int x1), (2, .int x2), (3, .int x3), (4, .int x4), (5, .int x5), (6, .int x6), (7, .int x7)] → q_X13_join K k 7 x1 x2 x3 x4 x5 x6 x7 x8 t0 t1 z = some (r, z1) → W p l e ({ frames := 5, cells := 0, slots := 0, locals := 132 } : Room) s m args below meth c H locs 0 0 QQ (F0 m 293 ls [])) ∧ (∀ (x1 : Int32) (x2 : Int32) (x3 : Int32) (x4 : Int32) (x5 : Int32) (x6 : Int32) (x7 : Int32) (x8 : Int32) (t0 : Int32) (t1 : Int32) (z : ow_MS) (H : Heap) (locs : List Loc) (ls : Array Slot), tw_M D vwCl mX q s.heap u z H locs → lv_has ls 9 [(0, .ref (u 0)), (1, .int x1), (2, .int x2), (3, .int x3), (4, .int x4), (5, .int x5), (6, .int x6)] → q_X13_join K k 8 x1 x2 x3 x4 x5 x6 x7 x8 t0 t1 z = some (r, z1) → W p l e ({ frames := 5, cells := 0, slots := 0, locals := 132 } : Room) s m args below meth c H locs 0 0 QQ (F0 m 315 ls [])) ∧ (∀ (x1 : Int32) (x2 : Int32) (x3 : Int32) (x4 : Int32) (x5 : Int32) (x6 : Int32) (x7 : Int32) (x8 : Int32) (t0 : Int32) (t1 : Int32) (z : ow_MS) (H : Heap) (locs : List Loc) (ls : Array Slot), tw_M D vwCl mX q s.heap u z H locs → lv_has ls 9 [(0, .ref (u 0)), (1, .int x1), (2, .int x2), (3, .int x3), (4, .int x4), (5, .int x5), (6, .int x6), (7, .int x7)] → q_X13_join K k 9 x1 x2 x3 x4 x5 x6 x7 x8 t0 t1 z = some (r, z1) → W p l e ({ frames := 5, cells := 0, slots := 0, locals := 132 } : Room) s m args below meth c H locs 0 0 QQ (F0 m 354 ls [])) ∧ (∀ (x1 : Int32) (x2 : Int32) (x3 : Int32) (x4 : Int32) (x5 : Int32) (x6 : Int32) (x7 : Int32) (x8 : Int32) (t0 : Int32) (t1 : Int32) (z : ow_MS) (H : Heap) (locs : List Loc) (ls : Array Slot), tw_M D vwCl mX q s.heap u z H locs → lv_has ls 9 [(0, .ref (u 0)), (1, .int x1), (2, .int x2), (3, .int x3), (4, .int x4), (5, .int x5), (6, .int x6)] → q_X13_join K k 10 x1 x2 x3 x4 x5 x6 x7 x8 t0 t1 z = some (r, z1) → W p l e ({ frames := 5, cells := 0, slots := 0, locals := 132 } : Room) s m args below meth c H locs 0 0 QQ (F0 m 414 ls [])) ∧ (∀ (x1 : Int32) (x2 : Int32) (x3 : Int32) (x4 : Int32) (x5 : Int32) (x6 : Int32) (x7 : Int32) (x8 : Int32) (t0 : Int32) (t1 : Int32) (z : ow_MS) (H : Heap) (locs : List Loc) (ls : Array Slot), tw_M D vwCl mX q s.heap u z H locs → lv_has ls 9 [(0, .ref (u 0)), (1, .int x1), (2, .int x2), (3, .int x3), (4, .int x4), (5, .int x5), (6, .int x6)] → q_X13_join K k 11 x1 x2 x3 x4 x5 x6 x7 x8 t0 t1 z = some (r, z1) → W p l e ({ frames := 5, cells := 0, slots := 0, locals := 132 } : Room) s m args below meth c H locs 0 0 QQ (F0 m 423 ls [])) ∧ (∀ (x1 : Int32) (x2 : Int32) (x3 : Int32) (x4 : Int32) (x5 : Int32) (x6 : Int32) (x7 : Int32) (x8 : Int32) (t0 : Int32) (t1 : Int32) (z : ow_MS) (H : Heap) (locs : List Loc) (ls : Array Slot), tw_M D vwCl mX q s.heap u z H locs → lv_has ls 9 [(0, .ref (u 0)), (1, .int x1), (2, .int x2), (3, .int x3), (4, .int x4), (5, .int x5), (6, .int x6)] → q_X13_join K k 12 x1 x2 x3 x4 x5 x6 x7 x8 t0 t1 z = some (r, z1) → W p l e ({ frames := 5, cells := 0, slots := 0, locals := 132 } : Room) s m args below meth c H locs 0 0 QQ (F0 m 472 ls [.int t0, .int t1, .ref (u (3000 + 6))])) := by
    intro k
    induction k with
    | zero => exact ⟨fun _ _ _ _ _ _ _ _ _ _ _ _ _ _  _ _ hq => tw_no hq, fun _ _ _ _ _ _ _ _ _ _ _ _ _ _  _ _ hq => tw_no hq, fun _ _ _ _ _ _ _ _ _ _ _ _ _ _  _ _ hq => tw_no hq, fun _ _ _ _ _ _ _ _ _ _ _ _ _ _  _ _ hq => tw_no hq, fun _ _ _ _ _ _ _ _ _ _ _ _ _ _  _ _ hq => tw_no hq, fun _ _ _ _ _ _ _ _ _ _ _ _ _ _  _ _ hq => tw_no hq, fun _ _ _ _ _ _ _ _ _ _ _ _ _ _  _ _ hq => tw_no hq, fun _ _ _ _ _ _ _ _ _ _ _ _ _ _  _ _ hq => tw_no hq, fun _ _ _ _ _ _ _ _ _ _ _ _ _ _  _ _ hq => tw_no hq, fun _ _ _ _ _ _ _ _ _ _ _ _ _ _  _ _ hq => tw_no hq, fun _ _ _ _ _ _ _ _ _ _ _ _ _ _  _ _ hq => tw_no hq, fun _ _ _ _ _ _ _ _ _ _ _ _ _ _  _ _ hq => tw_no hq, fun _ _ _ _ _ _ _ _ _ _ _ _ _ _  _ _ hq => tw_no hq⟩
    | succ k ih =>
      obtain ⟨ih_0, ih_1, ih_2, ih_3, ih_4, ih_5, ih_6, ih_7, ih_8, ih_9, ih_10, ih_11, ih_12⟩ := ih
      refine ⟨?_, ?_, ?_, ?_, ?_, ?_, ?_, ?_, ?_, ?_, ?_, ?_, ?_⟩
      · intro x1 x2 x3 x4 x5 x6 x7 x8 t0 t1 z H locs ls  hM hl hq
        have hq : qm_X13_join_0 K (q_X13_join K k) x1 x2 x3 x4 x5 x6 x7 x8 t0 t1 z = some (r, z1) := hq
        unfold qm_X13_join_0 at hq
        refine lv_aload_n hx hb dmX13_join_0 rfl (lv_at hl 0 rfl) ?_
        refine lv_iconst (v := 0) hx hb dmX13_join_1 (by decide) ?_
        refine mp13_1 hx hb hT hown hK hM hU hq dmX13_join_2 (fun z1 H locs hM hq => ?_)
        refine lv_aload_n hx hb dmX13_join_5 rfl (lv_at hl 0 rfl) ?_
        refine lv_iload_n hx hb dmX13_join_6 rfl (lv_at hl 1 rfl) ?_
        obtain ⟨v3, z2, hcq, hq⟩ := tw_cl1 hq
        refine tw_cali hM (va_runV (As := [.int x1]) (rest := []) ⟨hx, hb, hml, hown, hts⟩ (km_X13_has l D q u hU K x1 z1 z2 v3 hcq) (cwV 1 hts (tw_gV wM_good wq_127 wq_128 wq_129 wq_61 wq_90) rfl rfl rfl cd_X13_has ⟨(Nat.le_of_ble_eq_true rfl), (Nat.le_of_ble_eq_true rfl)⟩) (mw_preV hK hN hM mo_0 rfl) rfl rfl hl.1 rfl (lv_room (Nat.le_of_ble_eq_true rfl)) dmX13_join_7 ⟨(Nat.le_of_ble_eq_true rfl), (Nat.le_of_ble_eq_true rfl)⟩) (fun H locs hM => ?_)
        refine lv_if_eq (tgt := 21) hx hb dmX13_join_10 (by decide) (fun hc => ?_) (fun hc => ?_)
        · have hq := tw_it hq hc
          exact ih_1 x1 x2 x3 x4 0 0 0 0 0 0 z2 H locs ls hM (lv_sub hl [0, 1, 2, 3, 4] rfl) hq
        · have hq := tw_if hq hc
          refine lv_aload_n hx hb dmX13_join_13 rfl (lv_at hl 0 rfl) ?_
          refine lv_iload_n hx hb dmX13_join_14 rfl (lv_at hl 3 rfl) ?_
          obtain ⟨v5, z4, hcq, hq⟩ := tw_cl1 hq
          refine tw_cali hM (va_runV (As := [.int x3]) (rest := []) ⟨hx, hb, hml, hown, hts⟩ (km_X13_has l D q u hU K x3 z2 z4 v5 hcq) (cwV 1 hts (tw_gV wM_good wq_127 wq_128 wq_129 wq_61 wq_90) rfl rfl rfl cd_X13_has ⟨(Nat.le_of_ble_eq_true rfl), (Nat.le_of_ble_eq_true rfl)⟩) (mw_preV hK hN hM mo_0 rfl) rfl rfl hl.1 rfl (lv_room (Nat.le_of_ble_eq_true rfl)) dmX13_join_15 ⟨(Nat.le_of_ble_eq_true rfl), (Nat.le_of_ble_eq_true rfl)⟩) (fun H locs hM => ?_)
          refine lv_if_ne (tgt := 27) hx hb dmX13_join_18 (by decide) (fun hc => ?_) (fun hc => ?_)
          · have hq := tw_if hq hc
            refine lv_aload_n hx hb dmX13_join_27 rfl (lv_at hl 0 rfl) ?_
            refine lv_iload_n hx hb dmX13_join_28 rfl (lv_at hl 1 rfl) ?_
            refine lv_aload_n hx hb dmX13_join_29 rfl (lv_at hl 0 rfl) ?_
            refine mg13_114 hx hb hT hown hK hM dmX13_join_30 ?_
            obtain ⟨z6, hcq, hq⟩ := tw_cl0 hq
            refine tw_calv hM (va_runV (As := [.int x1, .ref (u 1000)]) (rest := []) ⟨hx, hb, hml, hown, hts⟩ (km_X13_open l D q u hU K x1 1000 mw_n1 z4 z6 hcq) (cwV 2 hts (tw_gV wM_good wq_138 wq_139 wq_140 wq_61 wq_136) rfl rfl rfl cd_X13_open ⟨(Nat.le_of_ble_eq_true rfl), (Nat.le_of_ble_eq_true rfl)⟩) (mw_preV hK hN hM mo_0 rfl) rfl rfl hl.1 rfl (lv_room (Nat.le_of_ble_eq_true rfl)) dmX13_join_33 ⟨(Nat.le_of_ble_eq_true rfl), (Nat.le_of_ble_eq_true rfl)⟩) (fun H locs hM => ?_)
            refine lv_aload_n hx hb dmX13_join_36 rfl (lv_at hl 0 rfl) ?_
            refine lv_iload_n hx hb dmX13_join_37 rfl (lv_at hl 3 rfl) ?_
            refine lv_aload_n hx hb dmX13_join_38 rfl (lv_at hl 0 rfl) ?_
            refine mg13_118 hx hb hT hown hK hM dmX13_join_39 ?_
            obtain ⟨z7, hcq, hq⟩ := tw_cl0 hq
            refine tw_calv hM (va_runV (As := [.int x3, .ref (u 2000)]) (rest := []) ⟨hx, hb, hml, hown, hts⟩ (km_X13_open l D q u hU K x3 2000 mw_n2 z6 z7 hcq) (cwV 2 hts (tw_gV wM_good wq_138 wq_139 wq_140 wq_61 wq_136) rfl rfl rfl cd_X13_open ⟨(Nat.le_of_ble_eq_true rfl), (Nat.le_of_ble_eq_true rfl)⟩) (mw_preV hK hN hM mo_0 rfl) rfl rfl hl.1 rfl (lv_room (Nat.le_of_ble_eq_true rfl)) dmX13_join_42 ⟨(Nat.le_of_ble_eq_true rfl), (Nat.le_of_ble_eq_true rfl)⟩) (fun H locs hM => ?_)
            refine lv_iload_n hx hb dmX13_join_45 rfl (lv_at hl 2 rfl) ?_
            refine lv_if_lt (tgt := 77) hx hb dmX13_join_46 (by decide) (fun hc => ?_) (fun hc => ?_)
            · have hq := tw_it hq hc
              exact ih_2 x1 x2 x3 x4 0 0 0 0 0 0 z7 H locs ls hM (lv_sub hl [0, 1, 2, 3, 4] rfl) hq
            · have hq := tw_if hq hc
              refine lv_iload_n hx hb dmX13_join_49 rfl (lv_at hl 2 rfl) ?_
              refine lv_aload_n hx hb dmX13_join_50 rfl (lv_at hl 0 rfl) ?_
              refine mg13_114 hx hb hT hown hK hM dmX13_join_51 ?_
              refine mg13_44 hx hb hT hown hK hM hN mw_n1 hq dmX13_join_54 (fun v8 hq => ?_)
              refine lv_icmp_ge (tgt := 77) hx hb dmX13_join_57 (by decide) (fun hc => ?_) (fun hc => ?_)
              · have hq := tw_it hq hc
                exact ih_2 x1 x2 x3 x4 0 0 0 0 0 0 z7 H locs ls hM (lv_sub hl [0, 1, 2, 3, 4] rfl) hq
              · have hq := tw_if hq hc
                refine lv_iload hx hb dmX13_join_60 (lv_at hl 4 rfl) ?_
                refine lv_if_lt (tgt := 77) hx hb dmX13_join_62 (by decide) (fun hc => ?_) (fun hc => ?_)
                · have hq := tw_it hq hc
                  exact ih_2 x1 x2 x3 x4 0 0 0 0 0 0 z7 H locs ls hM (lv_sub hl [0, 1, 2, 3, 4] rfl) hq
                · have hq := tw_if hq hc
                  refine lv_iload hx hb dmX13_join_65 (lv_at hl 4 rfl) ?_
                  refine lv_aload_n hx hb dmX13_join_67 rfl (lv_at hl 0 rfl) ?_
                  refine mg13_118 hx hb hT hown hK hM dmX13_join_68 ?_
                  refine mg13_44 hx hb hT hown hK hM hN mw_n2 hq dmX13_join_71 (fun v9 hq => ?_)
                  refine lv_icmp_lt (tgt := 83) hx hb dmX13_join_74 (by decide) (fun hc => ?_) (fun hc => ?_)
                  · have hq := tw_it hq hc
                    refine lv_aload_n hx hb dmX13_join_83 rfl (lv_at hl 0 rfl) ?_
                    refine mg13_114 hx hb hT hown hK hM dmX13_join_84 ?_
                    refine mg13_44 hx hb hT hown hK hM hN mw_n1 hq dmX13_join_87 (fun v10 hq => ?_)
                    refine lv_aload_n hx hb dmX13_join_90 rfl (lv_at hl 0 rfl) ?_
                    refine mg13_118 hx hb hT hown hK hM dmX13_join_91 ?_
                    refine mg13_44 hx hb hT hown hK hM hN mw_n2 hq dmX13_join_94 (fun v11 hq => ?_)
                    refine lv_iadd hx hb dmX13_join_97 ?_
                    refine lv_bipush (v := 24) hx hb dmX13_join_98 (by decide) ?_
                    refine lv_icmp_gt (tgt := 125) hx hb dmX13_join_100 (by decide) (fun hc => ?_) (fun hc => ?_)
                    · have hq := tw_it hq hc
                      exact ih_3 x1 x2 x3 x4 0 0 0 0 0 0 z7 H locs ls hM (lv_sub hl [0, 1, 2, 3, 4] rfl) hq
                    · have hq := tw_if hq hc
                      refine lv_aload_n hx hb dmX13_join_103 rfl (lv_at hl 0 rfl) ?_
                      refine mg13_114 hx hb hT hown hK hM dmX13_join_104 ?_
                      refine mg13_407 hx hb hT hown hK hM hN mw_n1 hq dmX13_join_107 (fun v12 hq => ?_)
                      refine lv_aload_n hx hb dmX13_join_110 rfl (lv_at hl 0 rfl) ?_
                      refine mg13_118 hx hb hT hown hK hM dmX13_join_111 ?_
                      refine mg13_407 hx hb hT hown hK hM hN mw_n2 hq dmX13_join_114 (fun v13 hq => ?_)
                      refine lv_iadd hx hb dmX13_join_117 ?_
                      refine lv_iconst (v := 1) hx hb dmX13_join_118 (by decide) ?_
                      refine lv_isub hx hb dmX13_join_119 ?_
                      refine lv_bipush (v := 6) hx hb dmX13_join_120 (by decide) ?_
                      refine lv_icmp_le (tgt := 131) hx hb dmX13_join_122 (by decide) (fun hc => ?_) (fun hc => ?_)
                      · have hq := tw_it hq hc
                        refine lv_aload_n hx hb dmX13_join_131 rfl (lv_at hl 0 rfl) ?_
                        obtain ⟨v15, z14, hcq, hq⟩ := tw_cl1 hq
                        refine tw_cali hM (va_runV (As := []) (rest := []) ⟨hx, hb, hml, hown, hts⟩ (km_X13_free l D q u hU K z7 z14 v15 hcq) (cwV 0 hts (tw_gV wM_good wq_93 wq_94 wq_95 wq_61 wq_91) rfl rfl rfl cd_X13_free ⟨(Nat.le_of_ble_eq_true rfl), (Nat.le_of_ble_eq_true rfl)⟩) (mw_preV hK hN hM mo_0 rfl) rfl rfl hl.1 rfl (lv_room (Nat.le_of_ble_eq_true rfl)) dmX13_join_132 ⟨(Nat.le_of_ble_eq_true rfl), (Nat.le_of_ble_eq_true rfl)⟩) (fun H locs hM => ?_)
                        refine lv_iconst (v := (-1)) hx hb dmX13_join_135 (by decide) ?_
                        refine lv_icmp_ne (tgt := 145) hx hb dmX13_join_136 (by decide) (fun hc => ?_) (fun hc => ?_)
                        · have hq := tw_if hq hc
                          refine lv_aload_n hx hb dmX13_join_145 rfl (lv_at hl 0 rfl) ?_
                          refine mg13_114 hx hb hT hown hK hM dmX13_join_146 ?_
                          refine mg13_44 hx hb hT hown hK hM hN mw_n1 hq dmX13_join_149 (fun v16 hq => ?_)
                          refine lv_iconst (v := 2) hx hb dmX13_join_152 (by decide) ?_
                          obtain ⟨hz, hq⟩ := tw_nzI hq
                          refine lv_idiv hx hb dmX13_join_153 hz ?_
                          refine lv_istore (lv' := [(5, .int (v16 / 2)), (0, .ref (u 0)), (1, .int x1), (2, .int x2), (3, .int x3), (4, .int x4)]) hx hb dmX13_join_154 hl (by decide) rfl (fun ls hl => ?_)
                          refine lv_aload_n hx hb dmX13_join_156 rfl (lv_at hl 1 rfl) ?_
                          refine mg13_121 hx hb hT hown hK hM dmX13_join_157 ?_
                          obtain ⟨z17, hcq, hq⟩ := tw_cl0 hq
                          refine tw_calv hM (va_runV (As := []) (rest := []) ⟨hx, hb, hml, hown, hts⟩ (km_X12_clear l D q u hU K 3000 mw_n3 z14 z17 hcq) (cwV 0 hts (tw_gV wM_good wq_85 wq_11 wq_12 wq_13 wq_3) rfl rfl rfl cd_X12_clear ⟨(Nat.le_of_ble_eq_true rfl), (Nat.le_of_ble_eq_true rfl)⟩) (mw_preV hK hN hM (mo_n mw_n3) rfl) rfl rfl hl.1 rfl (lv_room (Nat.le_of_ble_eq_true rfl)) dmX13_join_160 ⟨(Nat.le_of_ble_eq_true rfl), (Nat.le_of_ble_eq_true rfl)⟩) (fun H locs hM => ?_)
                          refine lv_iconst (v := 0) hx hb dmX13_join_163 (by decide) ?_
                          refine lv_istore (lv' := [(6, .int 0), (5, .int (v16 / 2)), (0, .ref (u 0)), (1, .int x1), (2, .int x2), (3, .int x3), (4, .int x4)]) hx hb dmX13_join_164 hl (by decide) rfl (fun ls hl => ?_)
                          exact ih_4 x1 x2 x3 x4 (v16 / 2) 0 0 0 0 0 z17 H locs ls hM (lv_sub hl [2, 3, 4, 5, 6, 1, 0] rfl) hq
                        · have hq := tw_it hq hc
                          refine lv_aload_n hx hb dmX13_join_139 rfl (lv_at hl 0 rfl) ?_
                          refine lv_iconst (v := 3) hx hb dmX13_join_140 (by decide) ?_
                          obtain ⟨v19, z18, hcq, hq⟩ := tw_cl1 hq
                          refine tw_cali hM (va_runV (As := [.int 3]) (rest := []) ⟨hx, hb, hml, hown, hts⟩ (km_X13_fails l D q u hU K 3 z14 z18 v19 hcq) (cwV 1 hts (tw_gV wM_good wq_103 wq_104 wq_105 wq_61 wq_50) rfl rfl rfl cd_X13_fails ⟨(Nat.le_of_ble_eq_true rfl), (Nat.le_of_ble_eq_true rfl)⟩) (mw_preV hK hN hM mo_0 rfl) rfl rfl hl.1 rfl (lv_room (Nat.le_of_ble_eq_true rfl)) dmX13_join_141 ⟨(Nat.le_of_ble_eq_true rfl), (Nat.le_of_ble_eq_true rfl)⟩) (fun H locs hM => ?_)
                          exact mw_iret hx hb hr hlocks hM hq hQQ dmX13_join_144
                      · have hq := tw_if hq hc
                        exact ih_3 x1 x2 x3 x4 0 0 0 0 0 0 z7 H locs ls hM (lv_sub hl [0, 1, 2, 3, 4] rfl) hq
                  · have hq := tw_if hq hc
                    exact ih_2 x1 x2 x3 x4 0 0 0 0 0 0 z7 H locs ls hM (lv_sub hl [0, 1, 2, 3, 4] rfl) hq
          · have hq := tw_it hq hc
            exact ih_1 x1 x2 x3 x4 0 0 0 0 0 0 z4 H locs ls hM (lv_sub hl [0, 1, 2, 3, 4] rfl) hq
      · intro x1 x2 x3 x4 x5 x6 x7 x8 t0 t1 z H locs ls  hM hl hq
        have hq : qm_X13_join_1 K (q_X13_join K k) x1 x2 x3 x4 x5 x6 x7 x8 t0 t1 z = some (r, z1) := hq
        unfold qm_X13_join_1 at hq
        refine lv_aload_n hx hb dmX13_join_21 rfl (lv_at hl 0 rfl) ?_
        refine lv_iconst (v := 1) hx hb dmX13_join_22 (by decide) ?_
        obtain ⟨v21, z20, hcq, hq⟩ := tw_cl1 hq
        refine tw_cali hM (va_runV (As := [.int 1]) (rest := []) ⟨hx, hb, hml, hown, hts⟩ (km_X13_fails l D q u hU K 1 z z20 v21 hcq) (cwV 1 hts (tw_gV wM_good wq_103 wq_104 wq_105 wq_61 wq_50) rfl rfl rfl cd_X13_fails ⟨(Nat.le_of_ble_eq_true rfl), (Nat.le_of_ble_eq_true rfl)⟩) (mw_preV hK hN hM mo_0 rfl) rfl rfl hl.1 rfl (lv_room (Nat.le_of_ble_eq_true rfl)) dmX13_join_23 ⟨(Nat.le_of_ble_eq_true rfl), (Nat.le_of_ble_eq_true rfl)⟩) (fun H locs hM => ?_)
        exact mw_iret hx hb hr hlocks hM hq hQQ dmX13_join_26
      · intro x1 x2 x3 x4 x5 x6 x7 x8 t0 t1 z H locs ls  hM hl hq
        have hq : qm_X13_join_2 K (q_X13_join K k) x1 x2 x3 x4 x5 x6 x7 x8 t0 t1 z = some (r, z1) := hq
        unfold qm_X13_join_2 at hq
        refine lv_aload_n hx hb dmX13_join_77 rfl (lv_at hl 0 rfl) ?_
        refine lv_iconst (v := 1) hx hb dmX13_join_78 (by decide) ?_
        obtain ⟨v23, z22, hcq, hq⟩ := tw_cl1 hq
        refine tw_cali hM (va_runV (As := [.int 1]) (rest := []) ⟨hx, hb, hml, hown, hts⟩ (km_X13_fails l D q u hU K 1 z z22 v23 hcq) (cwV 1 hts (tw_gV wM_good wq_103 wq_104 wq_105 wq_61 wq_50) rfl rfl rfl cd_X13_fails ⟨(Nat.le_of_ble_eq_true rfl), (Nat.le_of_ble_eq_true rfl)⟩) (mw_preV hK hN hM mo_0 rfl) rfl rfl hl.1 rfl (lv_room (Nat.le_of_ble_eq_true rfl)) dmX13_join_79 ⟨(Nat.le_of_ble_eq_true rfl), (Nat.le_of_ble_eq_true rfl)⟩) (fun H locs hM => ?_)
        exact mw_iret hx hb hr hlocks hM hq hQQ dmX13_join_82
      · intro x1 x2 x3 x4 x5 x6 x7 x8 t0 t1 z H locs ls  hM hl hq
        have hq : qm_X13_join_3 K (q_X13_join K k) x1 x2 x3 x4 x5 x6 x7 x8 t0 t1 z = some (r, z1) := hq
        unfold qm_X13_join_3 at hq
        refine lv_aload_n hx hb dmX13_join_125 rfl (lv_at hl 0 rfl) ?_
        refine lv_iconst (v := 2) hx hb dmX13_join_126 (by decide) ?_
        obtain ⟨v25, z24, hcq, hq⟩ := tw_cl1 hq
        refine tw_cali hM (va_runV (As := [.int 2]) (rest := []) ⟨hx, hb, hml, hown, hts⟩ (km_X13_fails l D q u hU K 2 z z24 v25 hcq) (cwV 1 hts (tw_gV wM_good wq_103 wq_104 wq_105 wq_61 wq_50) rfl rfl rfl cd_X13_fails ⟨(Nat.le_of_ble_eq_true rfl), (Nat.le_of_ble_eq_true rfl)⟩) (mw_preV hK hN hM mo_0 rfl) rfl rfl hl.1 rfl (lv_room (Nat.le_of_ble_eq_true rfl)) dmX13_join_127 ⟨(Nat.le_of_ble_eq_true rfl), (Nat.le_of_ble_eq_true rfl)⟩) (fun H locs hM => ?_)
        exact mw_iret hx hb hr hlocks hM hq hQQ dmX13_join_130
      · intro x1 x2 x3 x4 x5 x6 x7 x8 t0 t1 z H locs ls  hM hl hq
        have hq : qm_X13_join_4 K (q_X13_join K k) x1 x2 x3 x4 x5 x6 x7 x8 t0 t1 z = some (r, z1) := hq
        unfold qm_X13_join_4 at hq
        refine lv_iload hx hb dmX13_join_166 (lv_at hl 6 rfl) ?_
        refine lv_aload_n hx hb dmX13_join_168 rfl (lv_at hl 0 rfl) ?_
        refine mg13_114 hx hb hT hown hK hM dmX13_join_169 ?_
        refine mg13_407 hx hb hT hown hK hM hN mw_n1 hq dmX13_join_172 (fun v26 hq => ?_)
        refine lv_icmp_ge (tgt := 312) hx hb dmX13_join_175 (by decide) (fun hc => ?_) (fun hc => ?_)
        · have hq := tw_it hq hc
          refine lv_iconst (v := 0) hx hb dmX13_join_312 (by decide) ?_
          refine lv_istore (lv' := [(6, .int 0), (0, .ref (u 0)), (1, .int x1), (2, .int x2), (3, .int x3), (4, .int x4), (5, .int x5)]) hx hb dmX13_join_313 hl (by decide) rfl (fun ls hl => ?_)
          exact ih_8 x1 x2 x3 x4 x5 0 0 0 0 0 z H locs ls hM (lv_sub hl [1, 2, 3, 4, 5, 6, 0] rfl) hq
        · have hq := tw_if hq hc
          refine lv_aload_n hx hb dmX13_join_178 rfl (lv_at hl 0 rfl) ?_
          refine mg13_114 hx hb hT hown hK hM dmX13_join_179 ?_
          refine mg13_452 hx hb hT hown hK hM hN mw_n1 dmX13_join_182 ?_
          refine lv_iload hx hb dmX13_join_185 (lv_at hl 6 rfl) ?_
          refine tw_iald mX_ok hx hb hK hM (mrn_3 mw_n1) hq dmX13_join_187 (fun v27 hq => ?_)
          refine lv_istore (lv' := [(7, .int v27), (0, .ref (u 0)), (1, .int x1), (2, .int x2), (3, .int x3), (4, .int x4), (5, .int x5), (6, .int x6)]) hx hb dmX13_join_188 hl (by decide) rfl (fun ls hl => ?_)
          exact ih_5 x1 x2 x3 x4 x5 x6 v27 0 0 0 z H locs ls hM (lv_sub hl [1, 2, 3, 4, 5, 6, 7, 0] rfl) hq
      · intro x1 x2 x3 x4 x5 x6 x7 x8 t0 t1 z H locs ls  hM hl hq
        have hq : qm_X13_join_5 K (q_X13_join K k) x1 x2 x3 x4 x5 x6 x7 x8 t0 t1 z = some (r, z1) := hq
        unfold qm_X13_join_5 at hq
        refine lv_iload hx hb dmX13_join_190 (lv_at hl 7 rfl) ?_
        refine lv_aload_n hx hb dmX13_join_192 rfl (lv_at hl 0 rfl) ?_
        refine mg13_114 hx hb hT hown hK hM dmX13_join_193 ?_
        refine mg13_452 hx hb hT hown hK hM hN mw_n1 dmX13_join_196 ?_
        refine lv_iload hx hb dmX13_join_199 (lv_at hl 6 rfl) ?_
        refine lv_iconst (v := 1) hx hb dmX13_join_201 (by decide) ?_
        refine lv_iadd hx hb dmX13_join_202 ?_
        refine tw_iald mX_ok hx hb hK hM (mrn_3 mw_n1) hq dmX13_join_203 (fun v28 hq => ?_)
        refine lv_icmp_ge (tgt := 299) hx hb dmX13_join_204 (by decide) (fun hc => ?_) (fun hc => ?_)
        · have hq := tw_it hq hc
          refine lv_aload_n hx hb dmX13_join_299 rfl (lv_at hl 0 rfl) ?_
          refine mg13_121 hx hb hT hown hK hM dmX13_join_300 ?_
          obtain ⟨z29, hcq, hq⟩ := tw_cl0 hq
          refine tw_calv hM (va_runV (As := []) (rest := []) ⟨hx, hb, hml, hown, hts⟩ (km_X12_end l D q u hU K 3000 mw_n3 z z29 hcq) (cwV 0 hts (tw_gV wM_good wq_86 wq_18 wq_19 wq_13 wq_7) rfl rfl rfl cd_X12_end ⟨(Nat.le_of_ble_eq_true rfl), (Nat.le_of_ble_eq_true rfl)⟩) (mw_preV hK hN hM (mo_n mw_n3) rfl) rfl rfl hl.1 rfl (lv_room (Nat.le_of_ble_eq_true rfl)) dmX13_join_303 ⟨(Nat.le_of_ble_eq_true rfl), (Nat.le_of_ble_eq_true rfl)⟩) (fun H locs hM => ?_)
          refine lv_iinc (v := (x6 + 1)) (lv' := [(6, .int (x6 + 1)), (0, .ref (u 0)), (1, .int x1), (2, .int x2), (3, .int x3), (4, .int x4), (5, .int x5), (7, .int x7)]) hx hb dmX13_join_306 hl (k := 6) rfl rfl (by decide) rfl (fun ls hl => ?_)
          refine lv_goto (tgt := 166) hx hb dmX13_join_309 (by decide) ?_
          exact ih_4 x1 x2 x3 x4 x5 (x6 + 1) 0 0 0 0 z29 H locs ls hM (lv_sub hl [1, 2, 3, 4, 5, 6, 0] rfl) hq
        · have hq := tw_if hq hc
          refine lv_aload_n hx hb dmX13_join_207 rfl (lv_at hl 0 rfl) ?_
          refine mg13_121 hx hb hT hown hK hM dmX13_join_208 ?_
          refine lv_aload_n hx hb dmX13_join_211 rfl (lv_at hl 0 rfl) ?_
          refine mg13_114 hx hb hT hown hK hM dmX13_join_212 ?_
          refine mg13_23 hx hb hT hown hK hM hN mw_n1 dmX13_join_215 ?_
          refine lv_iload hx hb dmX13_join_218 (lv_at hl 7 rfl) ?_
          refine tw_iald mX_ok hx hb hK hM (mrn_4 mw_n1) hq dmX13_join_220 (fun v30 hq => ?_)
          refine lv_aload_n hx hb dmX13_join_221 rfl (lv_at hl 0 rfl) ?_
          refine mg13_114 hx hb hT hown hK hM dmX13_join_222 ?_
          refine mg13_32 hx hb hT hown hK hM hN mw_n1 dmX13_join_225 ?_
          refine lv_iload hx hb dmX13_join_228 (lv_at hl 7 rfl) ?_
          refine tw_iald mX_ok hx hb hK hM (mrn_5 mw_n1) hq dmX13_join_230 (fun v31 hq => ?_)
          obtain ⟨z32, hcq, hq⟩ := tw_cl0 hq
          refine tw_calv hM (va_runV (As := [.int v30, .int v31]) (rest := []) ⟨hx, hb, hml, hown, hts⟩ (km_X12_add l D q u hU K 3000 v30 v31 mw_n3 z z32 hcq) (cwV 2 hts (tw_gV wM_good wq_87 wq_15 wq_16 wq_13 wq_6) rfl rfl rfl cd_X12_add ⟨(Nat.le_of_ble_eq_true rfl), (Nat.le_of_ble_eq_true rfl)⟩) (mw_preV hK hN hM (mo_n mw_n3) rfl) rfl rfl hl.1 rfl (lv_room (Nat.le_of_ble_eq_true rfl)) dmX13_join_231 ⟨(Nat.le_of_ble_eq_true rfl), (Nat.le_of_ble_eq_true rfl)⟩) (fun H locs hM => ?_)
          refine lv_iload hx hb dmX13_join_234 (lv_at hl 7 rfl) ?_
          refine lv_iload_n hx hb dmX13_join_236 rfl (lv_at hl 2 rfl) ?_
          refine lv_icmp_ne (tgt := 293) hx hb dmX13_join_237 (by decide) (fun hc => ?_) (fun hc => ?_)
          · have hq := tw_if hq hc
            exact ih_7 x1 x2 x3 x4 x5 x6 x7 0 0 0 z32 H locs ls hM (lv_sub hl [0, 1, 2, 3, 4, 5, 6, 7] rfl) hq
          · have hq := tw_it hq hc
            refine lv_iload hx hb dmX13_join_240 (lv_at hl 4 rfl) ?_
            refine lv_istore (lv' := [(8, .int x4), (0, .ref (u 0)), (1, .int x1), (2, .int x2), (3, .int x3), (4, .int x4), (5, .int x5), (6, .int x6), (7, .int x7)]) hx hb dmX13_join_242 hl (by decide) rfl (fun ls hl => ?_)
            exact ih_6 x1 x2 x3 x4 x5 x6 x7 x4 0 0 z32 H locs ls hM (lv_sub hl [1, 2, 3, 4, 5, 6, 7, 8, 0] rfl) hq
      · intro x1 x2 x3 x4 x5 x6 x7 x8 t0 t1 z H locs ls  hM hl hq
        have hq : qm_X13_join_6 K (q_X13_join K k) x1 x2 x3 x4 x5 x6 x7 x8 t0 t1 z = some (r, z1) := hq
        unfold qm_X13_join_6 at hq
        refine lv_aload_n hx hb dmX13_join_244 rfl (lv_at hl 0 rfl) ?_
        refine mg13_118 hx hb hT hown hK hM dmX13_join_245 ?_
        refine mg13_38 hx hb hT hown hK hM hN mw_n2 dmX13_join_248 ?_
        refine lv_iload hx hb dmX13_join_251 (lv_at hl 8 rfl) ?_
        refine tw_iald mX_ok hx hb hK hM (mrn_9 mw_n2) hq dmX13_join_253 (fun v33 hq => ?_)
        refine lv_istore (lv' := [(8, .int v33), (0, .ref (u 0)), (1, .int x1), (2, .int x2), (3, .int x3), (4, .int x4), (5, .int x5), (6, .int x6), (7, .int x7)]) hx hb dmX13_join_254 hl (by decide) rfl (fun ls hl => ?_)
        refine lv_aload_n hx hb dmX13_join_256 rfl (lv_at hl 1 rfl) ?_
        refine mg13_121 hx hb hT hown hK hM dmX13_join_257 ?_
        refine lv_aload_n hx hb dmX13_join_260 rfl (lv_at hl 1 rfl) ?_
        refine mg13_118 hx hb hT hown hK hM dmX13_join_261 ?_
        refine mg13_23 hx hb hT hown hK hM hN mw_n2 dmX13_join_264 ?_
        refine lv_iload hx hb dmX13_join_267 (lv_at hl 0 rfl) ?_
        refine tw_iald mX_ok hx hb hK hM (mrn_4 mw_n2) hq dmX13_join_269 (fun v34 hq => ?_)
        refine lv_iload hx hb dmX13_join_270 (lv_at hl 6 rfl) ?_
        refine lv_iadd hx hb dmX13_join_272 ?_
        refine lv_aload_n hx hb dmX13_join_273 rfl (lv_at hl 1 rfl) ?_
        refine mg13_118 hx hb hT hown hK hM dmX13_join_274 ?_
        refine mg13_32 hx hb hT hown hK hM hN mw_n2 dmX13_join_277 ?_
        refine lv_iload hx hb dmX13_join_280 (lv_at hl 0 rfl) ?_
        refine tw_iald mX_ok hx hb hK hM (mrn_5 mw_n2) hq dmX13_join_282 (fun v35 hq => ?_)
        obtain ⟨z36, hcq, hq⟩ := tw_cl0 hq
        refine tw_calv hM (va_runV (As := [.int (v34 + x5), .int v35]) (rest := []) ⟨hx, hb, hml, hown, hts⟩ (km_X12_add l D q u hU K 3000 (v34 + x5) v35 mw_n3 z z36 hcq) (cwV 2 hts (tw_gV wM_good wq_87 wq_15 wq_16 wq_13 wq_6) rfl rfl rfl cd_X12_add ⟨(Nat.le_of_ble_eq_true rfl), (Nat.le_of_ble_eq_true rfl)⟩) (mw_preV hK hN hM (mo_n mw_n3) rfl) rfl rfl hl.1 rfl (lv_room (Nat.le_of_ble_eq_true rfl)) dmX13_join_283 ⟨(Nat.le_of_ble_eq_true rfl), (Nat.le_of_ble_eq_true rfl)⟩) (fun H locs hM => ?_)
        refine lv_iload hx hb dmX13_join_286 (lv_at hl 0 rfl) ?_
        refine lv_iload hx hb dmX13_join_288 (lv_at hl 5 rfl) ?_
        refine lv_icmp_ne (tgt := 244) hx hb dmX13_join_290 (by decide) (fun hc => ?_) (fun hc => ?_)
        · have hq := tw_if hq hc
          exact ih_6 x1 x2 x3 x4 x5 x6 x7 v33 0 0 z36 H locs ls hM (lv_sub hl [1, 2, 3, 4, 5, 6, 7, 8, 0] rfl) hq
        · have hq := tw_it hq hc
          exact ih_7 x1 x2 x3 x4 x5 x6 x7 0 0 0 z36 H locs ls hM (lv_sub hl [1, 2, 3, 4, 5, 6, 7, 8] rfl) hq
      · intro x1 x2 x3 x4 x5 x6 x7 x8 t0 t1 z H locs ls  hM hl hq
        have hq : qm_X13_join_7 K (q_X13_join K k) x1 x2 x3 x4 x5 x6 x7 x8 t0 t1 z = some (r, z1) := hq
        unfold qm_X13_join_7 at hq
        refine lv_iinc (v := (x7 + 1)) (lv' := [(7, .int (x7 + 1)), (0, .ref (u 0)), (1, .int x1), (2, .int x2), (3, .int x3), (4, .int x4), (5, .int x5), (6, .int x6)]) hx hb dmX13_join_293 hl (k := 7) rfl rfl (by decide) rfl (fun ls hl => ?_)
        refine lv_goto (tgt := 190) hx hb dmX13_join_296 (by decide) ?_
        exact ih_5 x1 x2 x3 x4 x5 x6 (x7 + 1) 0 0 0 z H locs ls hM (lv_sub hl [1, 2, 3, 4, 5, 6, 7, 0] rfl) hq
      · intro x1 x2 x3 x4 x5 x6 x7 x8 t0 t1 z H locs ls  hM hl hq
        have hq : qm_X13_join_8 K (q_X13_join K k) x1 x2 x3 x4 x5 x6 x7 x8 t0 t1 z = some (r, z1) := hq
        unfold qm_X13_join_8 at hq
        refine lv_iload hx hb dmX13_join_315 (lv_at hl 6 rfl) ?_
        refine lv_aload_n hx hb dmX13_join_317 rfl (lv_at hl 0 rfl) ?_
        refine mg13_118 hx hb hT hown hK hM dmX13_join_318 ?_
        refine mg13_407 hx hb hT hown hK hM hN mw_n2 hq dmX13_join_321 (fun v37 hq => ?_)
        refine lv_icmp_ge (tgt := 420) hx hb dmX13_join_324 (by decide) (fun hc => ?_) (fun hc => ?_)
        · have hq := tw_it hq hc
          refine lv_iconst (v := 0) hx hb dmX13_join_420 (by decide) ?_
          refine lv_istore (lv' := [(6, .int 0), (0, .ref (u 0)), (1, .int x1), (2, .int x2), (3, .int x3), (4, .int x4), (5, .int x5)]) hx hb dmX13_join_421 hl (by decide) rfl (fun ls hl => ?_)
          exact ih_11 x1 x2 x3 x4 x5 0 0 0 0 0 z H locs ls hM (lv_sub hl [1, 2, 3, 4, 5, 6, 0] rfl) hq
        · have hq := tw_if hq hc
          refine lv_iload hx hb dmX13_join_327 (lv_at hl 6 rfl) ?_
          refine lv_aload_n hx hb dmX13_join_329 rfl (lv_at hl 0 rfl) ?_
          refine mg13_118 hx hb hT hown hK hM dmX13_join_330 ?_
          refine mg13_18 hx hb hT hown hK hM hN mw_n2 dmX13_join_333 ?_
          refine lv_iload hx hb dmX13_join_336 (lv_at hl 4 rfl) ?_
          refine tw_iald mX_ok hx hb hK hM (mrn_8 mw_n2) hq dmX13_join_338 (fun v38 hq => ?_)
          refine lv_icmp_eq (tgt := 414) hx hb dmX13_join_339 (by decide) (fun hc => ?_) (fun hc => ?_)
          · have hq := tw_it hq hc
            exact ih_10 x1 x2 x3 x4 x5 x6 0 0 0 0 z H locs ls hM (lv_sub hl [0, 1, 2, 3, 4, 5, 6] rfl) hq
          · have hq := tw_if hq hc
            refine lv_aload_n hx hb dmX13_join_342 rfl (lv_at hl 0 rfl) ?_
            refine mg13_118 hx hb hT hown hK hM dmX13_join_343 ?_
            refine mg13_452 hx hb hT hown hK hM hN mw_n2 dmX13_join_346 ?_
            refine lv_iload hx hb dmX13_join_349 (lv_at hl 6 rfl) ?_
            refine tw_iald mX_ok hx hb hK hM (mrn_3 mw_n2) hq dmX13_join_351 (fun v39 hq => ?_)
            refine lv_istore (lv' := [(7, .int v39), (0, .ref (u 0)), (1, .int x1), (2, .int x2), (3, .int x3), (4, .int x4), (5, .int x5), (6, .int x6)]) hx hb dmX13_join_352 hl (by decide) rfl (fun ls hl => ?_)
            exact ih_9 x1 x2 x3 x4 x5 x6 v39 0 0 0 z H locs ls hM (lv_sub hl [1, 2, 3, 4, 5, 6, 7, 0] rfl) hq
      · intro x1 x2 x3 x4 x5 x6 x7 x8 t0 t1 z H locs ls  hM hl hq
        have hq : qm_X13_join_9 K (q_X13_join K k) x1 x2 x3 x4 x5 x6 x7 x8 t0 t1 z = some (r, z1) := hq
        unfold qm_X13_join_9 at hq
        refine lv_iload hx hb dmX13_join_354 (lv_at hl 7 rfl) ?_
        refine lv_aload_n hx hb dmX13_join_356 rfl (lv_at hl 0 rfl) ?_
        refine mg13_118 hx hb hT hown hK hM dmX13_join_357 ?_
        refine mg13_452 hx hb hT hown hK hM hN mw_n2 dmX13_join_360 ?_
        refine lv_iload hx hb dmX13_join_363 (lv_at hl 6 rfl) ?_
        refine lv_iconst (v := 1) hx hb dmX13_join_365 (by decide) ?_
        refine lv_iadd hx hb dmX13_join_366 ?_
        refine tw_iald mX_ok hx hb hK hM (mrn_3 mw_n2) hq dmX13_join_367 (fun v40 hq => ?_)
        refine lv_icmp_ge (tgt := 407) hx hb dmX13_join_368 (by decide) (fun hc => ?_) (fun hc => ?_)
        · have hq := tw_it hq hc
          refine lv_aload_n hx hb dmX13_join_407 rfl (lv_at hl 0 rfl) ?_
          refine mg13_121 hx hb hT hown hK hM dmX13_join_408 ?_
          obtain ⟨z41, hcq, hq⟩ := tw_cl0 hq
          refine tw_calv hM (va_runV (As := []) (rest := []) ⟨hx, hb, hml, hown, hts⟩ (km_X12_end l D q u hU K 3000 mw_n3 z z41 hcq) (cwV 0 hts (tw_gV wM_good wq_86 wq_18 wq_19 wq_13 wq_7) rfl rfl rfl cd_X12_end ⟨(Nat.le_of_ble_eq_true rfl), (Nat.le_of_ble_eq_true rfl)⟩) (mw_preV hK hN hM (mo_n mw_n3) rfl) rfl rfl hl.1 rfl (lv_room (Nat.le_of_ble_eq_true rfl)) dmX13_join_411 ⟨(Nat.le_of_ble_eq_true rfl), (Nat.le_of_ble_eq_true rfl)⟩) (fun H locs hM => ?_)
          exact ih_10 x1 x2 x3 x4 x5 x6 0 0 0 0 z41 H locs ls hM (lv_sub hl [0, 1, 2, 3, 4, 5, 6] rfl) hq
        · have hq := tw_if hq hc
          refine lv_aload_n hx hb dmX13_join_371 rfl (lv_at hl 0 rfl) ?_
          refine mg13_121 hx hb hT hown hK hM dmX13_join_372 ?_
          refine lv_aload_n hx hb dmX13_join_375 rfl (lv_at hl 0 rfl) ?_
          refine mg13_118 hx hb hT hown hK hM dmX13_join_376 ?_
          refine mg13_23 hx hb hT hown hK hM hN mw_n2 dmX13_join_379 ?_
          refine lv_iload hx hb dmX13_join_382 (lv_at hl 7 rfl) ?_
          refine tw_iald mX_ok hx hb hK hM (mrn_4 mw_n2) hq dmX13_join_384 (fun v42 hq => ?_)
          refine lv_iload hx hb dmX13_join_385 (lv_at hl 5 rfl) ?_
          refine lv_iadd hx hb dmX13_join_387 ?_
          refine lv_aload_n hx hb dmX13_join_388 rfl (lv_at hl 0 rfl) ?_
          refine mg13_118 hx hb hT hown hK hM dmX13_join_389 ?_
          refine mg13_32 hx hb hT hown hK hM hN mw_n2 dmX13_join_392 ?_
          refine lv_iload hx hb dmX13_join_395 (lv_at hl 7 rfl) ?_
          refine tw_iald mX_ok hx hb hK hM (mrn_5 mw_n2) hq dmX13_join_397 (fun v43 hq => ?_)
          obtain ⟨z44, hcq, hq⟩ := tw_cl0 hq
          refine tw_calv hM (va_runV (As := [.int (v42 + x5), .int v43]) (rest := []) ⟨hx, hb, hml, hown, hts⟩ (km_X12_add l D q u hU K 3000 (v42 + x5) v43 mw_n3 z z44 hcq) (cwV 2 hts (tw_gV wM_good wq_87 wq_15 wq_16 wq_13 wq_6) rfl rfl rfl cd_X12_add ⟨(Nat.le_of_ble_eq_true rfl), (Nat.le_of_ble_eq_true rfl)⟩) (mw_preV hK hN hM (mo_n mw_n3) rfl) rfl rfl hl.1 rfl (lv_room (Nat.le_of_ble_eq_true rfl)) dmX13_join_398 ⟨(Nat.le_of_ble_eq_true rfl), (Nat.le_of_ble_eq_true rfl)⟩) (fun H locs hM => ?_)
          refine lv_iinc (v := (x7 + 1)) (lv' := [(7, .int (x7 + 1)), (0, .ref (u 0)), (1, .int x1), (2, .int x2), (3, .int x3), (4, .int x4), (5, .int x5), (6, .int x6)]) hx hb dmX13_join_401 hl (k := 7) rfl rfl (by decide) rfl (fun ls hl => ?_)
          refine lv_goto (tgt := 354) hx hb dmX13_join_404 (by decide) ?_
          exact ih_9 x1 x2 x3 x4 x5 x6 (x7 + 1) 0 0 0 z44 H locs ls hM (lv_sub hl [1, 2, 3, 4, 5, 6, 7, 0] rfl) hq
      · intro x1 x2 x3 x4 x5 x6 x7 x8 t0 t1 z H locs ls  hM hl hq
        have hq : qm_X13_join_10 K (q_X13_join K k) x1 x2 x3 x4 x5 x6 x7 x8 t0 t1 z = some (r, z1) := hq
        unfold qm_X13_join_10 at hq
        refine lv_iinc (v := (x6 + 1)) (lv' := [(6, .int (x6 + 1)), (0, .ref (u 0)), (1, .int x1), (2, .int x2), (3, .int x3), (4, .int x4), (5, .int x5)]) hx hb dmX13_join_414 hl (k := 6) rfl rfl (by decide) rfl (fun ls hl => ?_)
        refine lv_goto (tgt := 315) hx hb dmX13_join_417 (by decide) ?_
        exact ih_8 x1 x2 x3 x4 x5 (x6 + 1) 0 0 0 0 z H locs ls hM (lv_sub hl [1, 2, 3, 4, 5, 6, 0] rfl) hq
      · intro x1 x2 x3 x4 x5 x6 x7 x8 t0 t1 z H locs ls  hM hl hq
        have hq : qm_X13_join_11 K (q_X13_join K k) x1 x2 x3 x4 x5 x6 x7 x8 t0 t1 z = some (r, z1) := hq
        unfold qm_X13_join_11 at hq
        refine lv_iload hx hb dmX13_join_423 (lv_at hl 6 rfl) ?_
        refine lv_bipush (v := 20) hx hb dmX13_join_425 (by decide) ?_
        refine lv_icmp_ge (tgt := 479) hx hb dmX13_join_427 (by decide) (fun hc => ?_) (fun hc => ?_)
        · have hq := tw_it hq hc
          refine lv_aload_n hx hb dmX13_join_479 rfl (lv_at hl 0 rfl) ?_
          obtain ⟨v46, z45, hcq, hq⟩ := tw_cl1 hq
          refine tw_cali hM (va_runV (As := []) (rest := []) ⟨hx, hb, hml, hown, hts⟩ (km_X13_keep l D q u hU K z z45 v46 hcq) (cwV 0 hts (tw_gV wM_good wq_123 wq_124 wq_125 wq_61 wq_99) rfl rfl rfl cd_X13_keep ⟨(Nat.le_of_ble_eq_true rfl), (Nat.le_of_ble_eq_true rfl)⟩) (mw_preV hK hN hM mo_0 rfl) rfl rfl hl.1 rfl (lv_room (Nat.le_of_ble_eq_true rfl)) dmX13_join_480 ⟨(Nat.le_of_ble_eq_true rfl), (Nat.le_of_ble_eq_true rfl)⟩) (fun H locs hM => ?_)
          exact mw_iret hx hb hr hlocks hM hq hQQ dmX13_join_483
        · have hq := tw_if hq hc
          refine lv_aload_n hx hb dmX13_join_430 rfl (lv_at hl 0 rfl) ?_
          refine mg13_121 hx hb hT hown hK hM dmX13_join_431 ?_
          refine mg13_35 hx hb hT hown hK hM hN mw_n3 dmX13_join_434 ?_
          refine lv_iload hx hb dmX13_join_437 (lv_at hl 6 rfl) ?_
          refine lv_iload hx hb dmX13_join_439 (lv_at hl 6 rfl) ?_
          refine lv_iload hx hb dmX13_join_441 (lv_at hl 5 rfl) ?_
          refine lv_icmp_ge (tgt := 459) hx hb dmX13_join_443 (by decide) (fun hc => ?_) (fun hc => ?_)
          · have hq := tw_it hq hc
            refine lv_aload_n hx hb dmX13_join_459 rfl (lv_at hl 0 rfl) ?_
            refine mg13_118 hx hb hT hown hK hM dmX13_join_460 ?_
            refine mg13_35 hx hb hT hown hK hM hN mw_n2 dmX13_join_463 ?_
            refine lv_iload hx hb dmX13_join_466 (lv_at hl 6 rfl) ?_
            refine lv_iload hx hb dmX13_join_468 (lv_at hl 5 rfl) ?_
            refine lv_isub hx hb dmX13_join_470 ?_
            refine tw_iald mX_ok hx hb hK hM (mrn_6 mw_n2) hq dmX13_join_471 (fun v47 hq => ?_)
            exact ih_12 x1 x2 x3 x4 x5 x6 0 0 v47 x6 z H locs ls hM (lv_sub hl [0, 1, 2, 3, 4, 5, 6] rfl) hq
          · have hq := tw_if hq hc
            refine lv_aload_n hx hb dmX13_join_446 rfl (lv_at hl 0 rfl) ?_
            refine mg13_114 hx hb hT hown hK hM dmX13_join_447 ?_
            refine mg13_35 hx hb hT hown hK hM hN mw_n1 dmX13_join_450 ?_
            refine lv_iload hx hb dmX13_join_453 (lv_at hl 6 rfl) ?_
            refine tw_iald mX_ok hx hb hK hM (mrn_6 mw_n1) hq dmX13_join_455 (fun v48 hq => ?_)
            refine lv_goto (tgt := 472) hx hb dmX13_join_456 (by decide) ?_
            exact ih_12 x1 x2 x3 x4 x5 x6 0 0 v48 x6 z H locs ls hM (lv_sub hl [0, 1, 2, 3, 4, 5, 6] rfl) hq
      · intro x1 x2 x3 x4 x5 x6 x7 x8 t0 t1 z H locs ls  hM hl hq
        have hq : qm_X13_join_12 K (q_X13_join K k) x1 x2 x3 x4 x5 x6 x7 x8 t0 t1 z = some (r, z1) := hq
        unfold qm_X13_join_12 at hq
        refine tw_iast mX_ok hU hx hb hK hM (mrn_6 mw_n3) hq dmX13_join_472 (fun z49 H locs hM hq => ?_)
        refine lv_iinc (v := (x6 + 1)) (lv' := [(6, .int (x6 + 1)), (0, .ref (u 0)), (1, .int x1), (2, .int x2), (3, .int x3), (4, .int x4), (5, .int x5)]) hx hb dmX13_join_473 hl (k := 6) rfl rfl (by decide) rfl (fun ls hl => ?_)
        refine lv_goto (tgt := 423) hx hb dmX13_join_476 (by decide) ?_
        exact ih_11 x1 x2 x3 x4 x5 (x6 + 1) 0 0 0 0 z49 H locs ls hM (lv_sub hl [1, 2, 3, 4, 5, 6, 0] rfl) hq
  exact (key K).1 x1 x2 x3 x4 0 0 0 0 0 0 z s.heap [] ls  hM (lv_sub hl [0, 1, 2, 3, 4] rfl) hq
