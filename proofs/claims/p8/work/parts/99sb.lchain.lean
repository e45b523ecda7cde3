theorem dlL_chain_0 : decode cL_chain 0 = .ok (.aload_n 3, 1) := by decide +kernel
theorem dlL_chain_1 : decode cL_chain 1 = .ok (.iconst 0, 1) := by decide +kernel
theorem dlL_chain_2 : decode cL_chain 2 = .ok (.aload_n 0, 1) := by decide +kernel
theorem dlL_chain_3 : decode cL_chain 3 = .ok (.iload_n 1, 1) := by decide +kernel
theorem dlL_chain_4 : decode cL_chain 4 = .ok (.iload_n 2, 1) := by decide +kernel
theorem dlL_chain_5 : decode cL_chain 5 = .ok (.invokevirtual 100, 3) := by decide +kernel
theorem dlL_chain_8 : decode cL_chain 8 = .ok (.i2l, 1) := by decide +kernel
theorem dlL_chain_9 : decode cL_chain 9 = .ok (.lastore, 1) := by decide +kernel
theorem dlL_chain_10 : decode cL_chain 10 = .ok (.goto 15, 3) := by decide +kernel
theorem dlL_chain_13 : decode cL_chain 13 = .ok (.astore 4, 2) := by decide +kernel
theorem dlL_chain_15 : decode cL_chain 15 = .ok (.iconst 1, 1) := by decide +kernel
theorem dlL_chain_16 : decode cL_chain 16 = .ok (.ireturn, 1) := by decide +kernel
theorem dlL_chain_17 : decode cL_chain 17 = .ok (.astore 4, 2) := by decide +kernel
theorem dlL_chain_19 : decode cL_chain 19 = .ok (.iconst 2, 1) := by decide +kernel
theorem dlL_chain_20 : decode cL_chain 20 = .ok (.ireturn, 1) := by decide +kernel
theorem dlL_chain_21 : decode cL_chain 21 = .ok (.astore 4, 2) := by decide +kernel
theorem dlL_chain_23 : decode cL_chain 23 = .ok (.iconst 3, 1) := by decide +kernel
theorem dlL_chain_24 : decode cL_chain 24 = .ok (.ireturn, 1) := by decide +kernel
theorem dlL_chain_25 : decode cL_chain 25 = .ok (.iconst 0, 1) := by decide +kernel
theorem dlL_chain_26 : decode cL_chain 26 = .ok (.ireturn, 1) := by decide +kernel
def td1 {O : Type} (o : Option (Nat × Int32 × (Nat → Nat) × ow_MS)) (E : Nat → (Nat → Nat) → ow_MS → Option O) (K : Int32 → (Nat → Nat) → ow_MS → Option O) : Option O := match o with
  | none => none
  | some r => if r.1 = 0 then K r.2.1 r.2.2.1 r.2.2.2 else E r.1 r.2.2.1 r.2.2.2
theorem ct_td1 {O : Type} {o : Option (Nat × Int32 × (Nat → Nat) × ow_MS)} {E : Nat → (Nat → Nat) → ow_MS → Option O} {K : Int32 → (Nat → Nat) → ow_MS → Option O} {out : O} (h : td1 o E K = some out) : ∃ k x v z, o = some (k, x, v, z) ∧ (if k = 0 then K x v z else E k v z) = some out := by
  cases o with
  | none => cases h
  | some r => exact ⟨r.1, r.2.1, r.2.2.1, r.2.2.2, rfl, h⟩
def le_L_chain (vl : Nat → Nat) (K : Nat) (r0 : Nat) (x1 x2 : Int32) (z : ow_MS) : Option (Int32 × (Nat → Nat) × ow_MS) := td1 (ce_X11_chain K r0 x1 x2 vl z) (fun k v z => if k = 1 then some (1, v, z) else if k = 2 then some (2, v, z) else if k = 4 then some (3, v, z) else none) (fun r v z => ctJ (cX v) z 52001 0 r.toInt64 fun z2 => some (0, v, z2))
def cw_preLD (D : va_G) (q : Nat → ClassId) (vl u sa : Nat → Nat) (z : ow_MS) (sz : Nat) (U : State) : Prop := U.heap.size = sz ∧ va_P D vwCl (uw (cX vl) q u z) U.heap ∧ va_K D vwCl (uw_T q RX7) U ∧ cw_Th (cd_A u sz) sa U ∧ cw_Nc U
theorem cdd_X11_chain : yX11_chain.cls = RX11 ∧ yX11_chain.cls ≠ "java/lang/invoke/MethodHandle" ∧ yX11_chain.cls ≠ "java/lang/invoke/VarHandle" ∧ (parseMethodDescriptor yX11_chain.desc).map (fun d => d.parameters.length) = some 2 := by decide +kernel
abbrev wl_L_chain : List Cond := .codeWith yL_chain cL_chain 5 (some .int) [(0, 10, 13, 33), (0, 10, 17, 19), (0, 10, 21, 54)] :: wLL
section LDRULES
variable {p : Program} {l : Launch} {e : Env} {R : Room} {s : State} {m : MethodId} {args : Array Value} {below : List Frame} {meth : Method} {c : Code} {H : Heap} {locs : List Loc} {cells slots mc ms : Nat} {Q : State → Prop}
variable {cc : ByteArray} {pc : Nat} {ls : Array Slot} {D : va_G} {q : Nat → ClassId} {v v1 u u1 : Nat → Nat} {z z1 : ow_MS}
theorem lld_iret {x r : Int32} (hx : p.tables.exec = Jvm.exec) (hb : c.code = cc) (hr : meth.sig.returnType = some .int) (hlocks : meth.locks = false) (hM : uw_M D vwCl (cX v) q (cd_A u s.heap.size) s.heap u1 z H locs) (hu : cd_U u u1 s.heap.size) (hq : some (x, v, z) = some (r, v1, z1)) (hQ : Q = vx_MQ below (va_Qi (fun x (u1 : Nat → Nat) => x = r ∧ cd_U u u1 s.heap.size) (fun u1 t => va_P D vwCl (uw (cX v1) q u1 z1) t.heap) (cd_A u s.heap.size)) (vx_X (fun _ : Unit => False) (fun _ _ _ => True) (cd_A u s.heap.size)) args s mc ms (cd_A u s.heap.size)) (h1 : cells ≤ mc) (h2 : slots ≤ ms) (hdg : decode cc pc = .ok (.ireturn, 1)) : W p l e R s m args below meth c H locs cells slots Q (F0 m pc ls [.int x]) := by
  obtain ⟨rfl, h9⟩ := Prod.mk.inj (Option.some.inj hq)
  obtain ⟨rfl, rfl⟩ := Prod.mk.inj h9
  rw [hQ]
  refine W.widen (k := mc) (n := ms) h1 h2 (vx_ret ?_)
  exact W.iret (v := x) hx hb hr (fun t ht hW => ⟨⟨x, u1, rfl, ⟨rfl, hu⟩, by show va_P D vwCl (uw (cX v) q u1 z) t.heap; rw [ht]; exact hM.1⟩, hM.2.F ht⟩) hM.2.2.2 hdg hlocks
end LDRULES
set_option maxHeartbeats 4000000 in
set_option maxRecDepth 100000 in
theorem kl_L_chain (l : Launch) (D : va_G) (q : Nat → ClassId) (vl u : Nat → Nat) (hU0 : tw_inj (cX vl) u) (hlt : l.stackTraces = false) (sa : Nat → Nat) (K : Nat) (r0 : Nat) (x1 x2 : Int32) (hr0 : cw_X11 r0) (z z1 : ow_MS) (vlE : Nat → Nat) (r : Int32) (sz : Nat) (hq : le_L_chain vl K r0 x1 x2 z = some (r, vlE, z1)) : vx_Met l yL_chain wl_L_chain ({ frames := 8, cells := 2 + dca vl vlE, slots := 12 + dsl vl vlE, locals := 226 } : Room) (va_Pc [.ref (u r0), .int x1, .int x2, .ref (u 52001)] (cw_preLD D q vl u sa z sz)) (va_Qi (fun x (u1 : Nat → Nat) => x = r ∧ cd_U u u1 sz) (fun u1 t => va_P D vwCl (uw (cX vlE) q u1 z1) t.heap) (cd_A u sz)) (vx_X (fun _ : Unit => False) (fun _ _ _ => True) (cd_A u sz)) (2 + dca vl vlE) (12 + dsl vl vlE) (cd_A u sz) := by
  refine vx_ofWH (cc := cL_chain) (maxL := 5) (ret := (some .int)) (hh := [(0, 10, 13, 33), (0, 10, 17, 19), (0, 10, 21, 54)]) (by decide) rfl ?_
  intro p e s m args below meth c s₁ B hml hv
  obtain ⟨rfl, rfl, hP, hK, hTh, hNc⟩ := hv
  have hx := B.exec
  have hb := B.bytes
  have hr := B.returns
  have hts := atoms_spec (ws := wl_L_chain) B.pre
  have htab := vx_table (x := yL_chain) B (hts _ List.mem_cons_self)
  have hown : s.vm.findClass RL = some m.cls := findClass_of_methodNamed B.named
  have hlocks := B.notSynchronized
  have hU : uw_inj (cX vl) u (cd_A u s.heap.size) := ⟨hU0, fun h hh => Or.inl ⟨h, hh, rfl⟩⟩
  have hM : uw_M D vwCl (cX vl) q (cd_A u s.heap.size) s.heap u z s.heap [] := ⟨hP, va_S.rf⟩
  have hl := lv_entry ([.ref (u r0), .int x1, .int x2, .ref (u 52001)]) (n := 5) (Nat.le_of_ble_eq_true rfl)
  rw [lg_entry_eq]
  generalize (lg_sl ([.ref (u r0), .int x1, .int x2, .ref (u 52001)]) ++ List.replicate (5 - (lg_sl ([.ref (u r0), .int x1, .int x2, .ref (u 52001)])).length) Slot.unset).toArray = ls at hl ⊢
  have hl : lv_has ls 5 [(0, .ref (u r0)), (1, .int x1), (2, .int x2), (3, .ref (u 52001))] := hl
  refine ow_named (fun QQ hQQ => ?_)
  generalize ([.ref (u r0), .int x1, .int x2, .ref (u 52001)] : List Value).toArray = args at hts hQQ ⊢
  unfold le_L_chain at hq
  obtain ⟨k, ro, vm, z2, hcq, hq⟩ := ct_td1 hq
  refine lv_aload_n hx hb dlL_chain_0 rfl (lv_at hl 3 rfl) ?_
  refine lv_iconst (v := 0) hx hb dlL_chain_1 (by decide) ?_
  refine lv_aload_n hx hb dlL_chain_2 rfl (lv_at hl 0 rfl) ?_
  refine lv_iload_n hx hb dlL_chain_3 rfl (lv_at hl 1 rfl) ?_
  refine lv_iload_n hx hb dlL_chain_4 rfl (lv_at hl 2 rfl) ?_
  have hvm : vm = vlE := by
    by_cases h0 : k = 0
    · have hq := tw_it hq h0
      obtain ⟨_, hq⟩ := tw_gdn hq
      exact congrArg (fun r => r.2.1) (Option.some.inj hq)
    · have hq := tw_if hq h0
      by_cases h1 : k = 1
      · exact congrArg (fun r => r.2.1) (Option.some.inj (tw_it hq h1))
      · have hq := tw_if hq h1
        by_cases h2 : k = 2
        · exact congrArg (fun r => r.2.1) (Option.some.inj (tw_it hq h2))
        · have hq := tw_if hq h2
          by_cases h3 : k = 4
          · exact congrArg (fun r => r.2.1) (Option.some.inj (tw_it hq h3))
          · exact cw_no (tw_if hq h3)
  subst hvm
  have hch : ∃ kq : Nat, (uw (cX vl) q u z)[kq]? = some ((u r0, .inr (14, (cX_o11 r0).map (tw_val u z))) : Nat × va_E) := by
    obtain ⟨kq, hkq, _⟩ := uw_at (cX_ok (vl := vl)) (co_X11 (vl := vl) hr0).1
    have h1 := hkq q u z
    rw [uw_c9 q u z (co_X11 (vl := vl) hr0)] at h1
    exact ⟨kq, h1⟩
  obtain ⟨kq, hkq⟩ := hch
  refine vx_calli (vx_runV (As := [.int x1, .int x2]) (rest := [.int 0, .ref (u 52001)]) ⟨hx, hb, hml, hown, hts⟩ (kc_X11_chain l D q vl u hU0 hlt sa K r0 x1 x2 hr0 z z2 vm k ro s.heap.size hcq) (cwV 2 hts (tw_gV2 wLL_good wLL_TD lq_79 lq_80 lq_81 (wLL_C _ xq_773) (wLL_C _ xq_941)) rfl rfl rfl cdd_X11_chain ⟨(Nat.le_of_ble_eq_true rfl), (Nat.le_of_ble_eq_true rfl)⟩) ⟨fun a U g mk q => by obtain ⟨q0, q1, qP, qK, qT⟩ := q; exact ⟨q0, q1, qP, va_K.moved (u := U) (U := U.calling g mk a) (Vm.Alike.refl U.vm) qK, fun t ht => ct_Th1.same (u := U) (U := U.calling g mk a) rfl rfl (qT t ht)⟩, va_recv (ci := 14) hK hP (q := (RX11, TX11, 19)) rfl hkq, fun U hU9 hW => ⟨rfl, by rw [hU9], by rw [hU9]; exact hP, va_K.moved hW.alike hK, fun t ht => ct_Th1.to (hTh t ht) hM.2 hW hU9 (fun q h => h)⟩⟩ rfl rfl hl.1 rfl (lv_room (Nat.le_of_ble_eq_true rfl)) dlL_chain_5 ⟨(by show 0 + (2 + dca vl vm) ≤ 2 + dca vl vm; omega), (by show 0 + (12 + dsl vl vm) ≤ 12 + dsl vl vm; omega)⟩) hM.2 (fun _ _ h => h) (fun _ h => h) (fun _ _ h => h) (fun E ce q9 _ t H locs ht _ _ hB _ _ hS hce hcv hcl => ?_) (fun r1 u1 t H locs ht _ hw hB _ _ hS => ?_)
  · obtain ⟨hk, hE, hB⟩ := hB
    rw [ht] at hB
    have hq := tw_if hq hk
    have hM : uw_M D vwCl (cX vm) q (cd_A u s.heap.size) s.heap u z2 H locs := ⟨hB, hS⟩
    have hu : cd_U u u s.heap.size := ⟨hU0, hU.2, fun _ _ => rfl⟩
    by_cases hk1 : k = 1
    · have hq := tw_it hq hk1
      rw [hk1] at hE
      subst hE
      refine vx_catch (name := thN 1) hown [] ⟨0, 10, 13, 33⟩ [⟨0, 10, 17, 19⟩, ⟨0, 10, 21, 54⟩] htab (fun w hw => by cases hw) (by decide) (by decide) (hts _ (List.mem_cons_of_mem _ lq_0)) (va_Nw.use rfl (hTh _ (List.mem_of_getElem? (i := 3) rfl)).2.2.2.2.2.2) hce hcv hcl ?_
      refine lv_astore (lv' := (4, .ref q9) :: [(0, .ref (u r0)), (1, .int x1), (2, .int x2), (3, .ref (u 52001))]) hx hb dlL_chain_13 hl (by decide) rfl (fun ls hl => ?_)
      refine lv_iconst (v := 1) hx hb dlL_chain_15 (by decide) ?_
      exact lld_iret hx hb hr hlocks hM hu hq hQQ (by omega) (by omega) dlL_chain_16
    · have hq := tw_if hq hk1
      by_cases hk2 : k = 2
      · have hq := tw_it hq hk2
        rw [hk2] at hE
        subst hE
        refine vx_catch (name := thN 2) hown [⟨0, 10, 13, 33⟩] ⟨0, 10, 17, 19⟩ [⟨0, 10, 21, 54⟩] htab (fun w hw => by
          simp only [List.mem_cons, List.not_mem_nil, or_false] at hw
          rcases hw with rfl
          · exact Or.inr ⟨by decide, thN 1, hts _ (List.mem_cons_of_mem _ lq_0), hNc 2 1 (by decide) (by decide) (by decide)⟩) (by decide) (by decide) (hts _ (List.mem_cons_of_mem _ lq_1)) (va_Nw.use rfl (hTh _ (List.mem_of_getElem? (i := 1) rfl)).2.2.2.2.2.2) hce hcv hcl ?_
        refine lv_astore (lv' := (4, .ref q9) :: [(0, .ref (u r0)), (1, .int x1), (2, .int x2), (3, .ref (u 52001))]) hx hb dlL_chain_17 hl (by decide) rfl (fun ls hl => ?_)
        refine lv_iconst (v := 2) hx hb dlL_chain_19 (by decide) ?_
        exact lld_iret hx hb hr hlocks hM hu hq hQQ (by omega) (by omega) dlL_chain_20
      · have hq := tw_if hq hk2
        by_cases hk4 : k = 4
        · have hq := tw_it hq hk4
          rw [hk4] at hE
          subst hE
          refine vx_catch (name := thN 4) hown [⟨0, 10, 13, 33⟩, ⟨0, 10, 17, 19⟩] ⟨0, 10, 21, 54⟩ [] htab (fun w hw => by
            simp only [List.mem_cons, List.not_mem_nil, or_false] at hw
            rcases hw with rfl | rfl
            · exact Or.inr ⟨by decide, thN 1, hts _ (List.mem_cons_of_mem _ lq_0), hNc 4 1 (by decide) (by decide) (by decide)⟩
            · exact Or.inr ⟨by decide, thN 2, hts _ (List.mem_cons_of_mem _ lq_1), hNc 4 2 (by decide) (by decide) (by decide)⟩) (by decide) (by decide) (hts _ (List.mem_cons_of_mem _ lq_3)) (va_Nw.use rfl (hTh _ (List.mem_of_getElem? (i := 13) rfl)).2.2.2.2.2.2) hce hcv hcl ?_
          refine lv_astore (lv' := (4, .ref q9) :: [(0, .ref (u r0)), (1, .int x1), (2, .int x2), (3, .ref (u 52001))]) hx hb dlL_chain_21 hl (by decide) rfl (fun ls hl => ?_)
          refine lv_iconst (v := 3) hx hb dlL_chain_23 (by decide) ?_
          exact lld_iret hx hb hr hlocks hM hu hq hQQ (by omega) (by omega) dlL_chain_24
        · have hq := tw_if hq hk4
          exact cw_no hq
  · obtain ⟨hk, rfl, hu⟩ := hw
    rw [ht] at hB
    have hq := tw_it hq hk
    have hM : uw_M D vwCl (cX vm) q (cd_A u s.heap.size) s.heap u1 z2 H locs := ⟨hB, hS⟩
    have hU1 : uw_inj (cX vm) u1 (cd_A u s.heap.size) := ⟨hu.1, hu.2.1⟩
    refine lv_i2l hx hb dlL_chain_8 rfl ?_
    rw [← hu.2.2 52001 (by decide)]
    refine uw_last cX_ok hU1 hx hb hK hM cr_out hq dlL_chain_9 (fun z3 H locs hM hq => ?_)
    refine lv_goto (tgt := 25) hx hb dlL_chain_10 (by decide) ?_
    refine lv_iconst (v := 0) hx hb dlL_chain_25 (by decide) ?_
    exact lld_iret hx hb hr hlocks hM hu hq hQQ (by omega) (by omega) dlL_chain_26
