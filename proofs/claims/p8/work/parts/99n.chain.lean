def ctd_X (D : va_G) (q : Nat → ClassId) (vl u : Nat → Nat) (A : Nat → Prop) (k : Nat) (z1 : ow_MS) : String → State → State → Prop := vx_X (fun _ : Unit => True) (fun E _ t => k ≠ 0 ∧ E = thN k ∧ va_P D vwCl (uw (cX vl) q u z1) t.heap) A
def cw_preTD (D : va_G) (q : Nat → ClassId) (vl u sa : Nat → Nat) (z : ow_MS) (sz : Nat) (U : State) : Prop := U.heap.size = sz ∧ va_P D vwCl (uw (cX vl) q u z) U.heap ∧ va_K D vwCl (uw_T q RX7) U ∧ cw_Th (cd_A u sz) sa U
def wTD : List Cond := .arrayClass .int :: wT
theorem wTD_good : wTD.all goodWord = true := by decide +kernel
theorem wTD_C : ∀ w ∈ wC, w ∈ wTD := fun w h => List.mem_cons_of_mem _ (wT_C w h)
theorem wTD_D : ∀ w ∈ wD, w ∈ wTD := by
  intro w h
  rcases List.mem_cons.mp h with h | h
  · rw [h]
    exact List.mem_cons_self
  · exact wTD_C w h
section TDRULES
variable {p : Program} {l : Launch} {e : Env} {R : Room} {s : State} {m : MethodId} {args : Array Value} {below : List Frame} {meth : Method} {c : Code} {H : Heap} {locs : List Loc} {cells slots mc ms : Nat} {Q : State → Prop}
variable {cc : ByteArray} {pc : Nat} {ls : Array Slot} {rest : List Value} {D : va_G} {A : Nat → Prop} {H0 : Heap} {q : Nat → ClassId} {vl u sa : Nat → Nat} {z z1 : ow_MS}
theorem ctd_preV (hK : va_K D vwCl (uw_T q RX7) s) (hTh : cw_Th A sa s) (hU : uw_inj (cX vl) u A) (hM : uw_M D vwCl (cX vl) q A s.heap u z H locs) {h ci : Nat} {fs : List (Nat × Nat)} (hh : tw_ob (cX vl) h ci fs) {r : vw_C} (hc : vwCl[ci]? = some r) {As : List Value} : PreV s H r.1 (u h) (va_Pc (.ref (u h) :: As) (cw_preT D q vl u sa z)) As := by
  obtain ⟨k, hk, _⟩ := uw_at cX_ok hh.1
  have h1 := hk q u z
  rw [uw_c9 q u z hh] at h1
  refine ⟨fun a U g mk q => by obtain ⟨q0, qP, qK, qT⟩ := q; exact ⟨q0, qP, va_K.moved (u := U) (U := U.calling g mk a) (Vm.Alike.refl U.vm) qK, fun t ht => ct_Th1.same (u := U) (U := U.calling g mk a) rfl rfl (qT t ht)⟩, va_recv hK hM.1 hc h1, fun U hU9 hW => ⟨rfl, by rw [hU9]; exact hM.1, va_K.moved hW.alike hK, fun t ht => ct_Th1.to (hTh t ht) hM.2 hW hU9 (fun q h => uw_sub hU h)⟩⟩
theorem ctd_out {Qc : Array Value → State → Outcome → State → Prop} {E : String} {ce : Cell} {q9 : Addr} {k : Nat} (hex : ∀ x ∈ c.exceptionTable.toList, False) (hlocks : meth.locks = false) (hk : k ≠ 0) (hE : E = thN k) (hM : uw_M D vwCl (cX vl) q (A) s.heap u z1 H locs) (hce : H[q9]? = some ce) (hcv : ce.vm = .none) (hcl : s.vm.findClass E = some ce.cls) (hQ : Q = vx_MQ below Qc (ctd_X D q vl u A k z1) args s mc ms (A)) (h1 : cells ≤ mc) (h2 : slots ≤ ms) : vx_W p l e R s m args below meth c H locs cells slots Q (F0 m pc ls rest) q9 := by
  rw [hQ]
  exact vx_out (fun x h => (hex x h).elim) hlocks hce hcv hcl (fun t9 ht9 hal => ⟨(), trivial, ⟨hk, hE, by rw [ht9]; exact hM.1⟩, hM.2.F ht9⟩) hM.2.2.2 h1 h2
theorem ctd_throwW {Qc : Array Value → State → Outcome → State → Prop} {k ik is ic : Nat} {cls text : String} (hx : p.tables.exec = Jvm.exec) (hb : c.code = cc) (hlt : l.stackTraces = false) (hown : s.vm.findClass RX11 = some m.cls) (hex : ∀ x ∈ c.exceptionTable.toList, False) (hlocks : meth.locks = false) (hml : c.maxLocals = ls.size) (hTh : cw_Th (A) sa s) (ht : (is, k, text) ∈ thL) (hcls : cls = thN k) (hk0 : k ≠ 0) (hcl : Bundle.fit cls = true) (hk : (Cond.classLink RX11 ik cls).before args s = true) (hini : (Cond.initialized cls).before args s = true) (hat : ∀ w ∈ (vx_atS RX11 ic cls ["java/lang/RuntimeException", "java/lang/Exception"]).filter goodWord, w.before args s = true) (hA9 : ∀ w ∈ (vx_atS RX11 ic cls ["java/lang/RuntimeException", "java/lang/Exception"]).filter (fun w => !goodWord w), w ∈ ([.declares (Bundle.initS "java/lang/RuntimeException"), .declares (Bundle.initS "java/lang/Exception"), .declares (Bundle.initS Bundle.tN), .castable cls cls] : List Cond)) (hgood : ∀ w ∈ Cond.classLink RX11 ik cls :: Cond.initialized cls :: vx_atS RX11 ic cls ["java/lang/RuntimeException", "java/lang/Exception"], vx_ot w = true) (hM : uw_M D vwCl (cX vl) q (A) s.heap u z H locs)
    (d0 : decode cc pc = .ok (.new ik, 3)) (d3 : decode cc (pc + 3) = .ok (.dup, 1)) (d4 : decode cc (pc + 4) = .ok (.ldc_w is, 3)) (d6 : decode cc (pc + 7) = .ok (.invokespecial ic, 3)) (d9 : decode cc (pc + 10) = .ok (.athrow, 1))
    (hQ : Q = vx_MQ below Qc (ctd_X D q vl u A k z) args s mc ms (A)) (hf : 5 < R.frames) (hlo : (rest.map fun v => v.category).sum + 82 ≤ R.locals) (hc1 : cells + 1 ≤ R.cells) (hs1 : slots + 6 ≤ R.slots) (h1 : cells + 1 ≤ mc) (h2 : slots + 6 ≤ ms) : W p l e R s m args below meth c H locs cells slots Q (F0 m pc ls rest) := by
  have hT1 : ct_Th1 (A) is text (sa is) cls s := by
    have h := hTh _ ht
    rw [hcls]
    exact h
  rw [hQ]
  exact vx_throwSW (own := RX11) (cls := cls) (text := text) (names := ["java/lang/RuntimeException", "java/lang/Exception"]) (A := A) hx hb hlt hown hcl (by decide +kernel) hk hini hT1.1 (vx_hat hat (B := [.declares (Bundle.initS "java/lang/RuntimeException"), .declares (Bundle.initS "java/lang/Exception"), .declares (Bundle.initS Bundle.tN), .castable cls cls]) hA9 (vx_c (va_Nw.use rfl hT1.2.2.2.1) (vx_c (va_Nw.use rfl hT1.2.2.2.2.1) (vx_c (va_Nw.use rfl hT1.2.2.2.2.2.1) (vx_c (va_Nw.use rfl hT1.2.2.2.2.2.2) vx_n))))) hgood hT1.2.1 hT1.2.2.1 hM.2 hml.symm d0 d3 d4 d6 d9 (fun x h => (hex x h).elim) hf (Nat.le_trans (Nat.add_le_add_left (Nat.le_of_ble_eq_true rfl) _) hlo) hc1 hs1 hlocks (fun t h3 h4 h5 => ⟨(), trivial, ⟨hk0, hcls, hM.1.kept (fun k9 x9 h9 => h5 x9.1 ((hM.1 k9 x9 h9).lt))⟩, Nat.le_trans hM.2.1 h4, fun q h6 h7 => (h5 q (Nat.lt_of_lt_of_le h6 hM.2.1)).trans (hM.2.2.1 q h6 h7)⟩) hM.2.2.2 h1 h2
end TDRULES
theorem dcX11_chain_0 : decode cX11_chain 0 = .ok (.aload_n 0, 1) := dw_at cX11_chain_k0 (p := 0) rfl (by decide +kernel)
theorem dcX11_chain_1 : decode cX11_chain 1 = .ok (.iload_n 1, 1) := dw_at cX11_chain_k0 (p := 1) rfl (by decide +kernel)
theorem dcX11_chain_2 : decode cX11_chain 2 = .ok (.invokevirtual 189, 3) := dw_at cX11_chain_k0 (p := 2) rfl (by decide +kernel)
theorem dcX11_chain_5 : decode cX11_chain 5 = .ok (.iload_n 2, 1) := dw_at cX11_chain_k0 (p := 5) rfl (by decide +kernel)
theorem dcX11_chain_6 : decode cX11_chain 6 = .ok (.iconst 2, 1) := dw_at cX11_chain_k0 (p := 6) rfl (by decide +kernel)
theorem dcX11_chain_7 : decode cX11_chain 7 = .ok (.if_icmp .lt 17, 3) := dw_at cX11_chain_k0 (p := 7) rfl (by decide +kernel)
theorem dcX11_chain_10 : decode cX11_chain 10 = .ok (.iload_n 2, 1) := dw_at cX11_chain_k0 (p := 10) rfl (by decide +kernel)
theorem dcX11_chain_11 : decode cX11_chain 11 = .ok (.sipush 997, 3) := dw_at cX11_chain_k0 (p := 11) rfl (by decide +kernel)
theorem dcX11_chain_14 : decode cX11_chain 14 = .ok (.if_icmp .gt 10, 3) := dw_at cX11_chain_k0 (p := 14) rfl (by decide +kernel)
theorem dcX11_chain_17 : decode cX11_chain 17 = .ok (.iload_n 2, 1) := dw_at cX11_chain_k0 (p := 17) rfl (by decide +kernel)
theorem dcX11_chain_18 : decode cX11_chain 18 = .ok (.invokestatic 364, 3) := dw_at cX11_chain_k0 (p := 18) rfl (by decide +kernel)
theorem dcX11_chain_21 : decode cX11_chain 21 = .ok (.ifCond .ne 14, 3) := dw_at cX11_chain_k0 (p := 21) rfl (by decide +kernel)
theorem dcX11_chain_24 : decode cX11_chain 24 = .ok (.new 128, 3) := dw_at cX11_chain_k1 (p := 0) rfl (by decide +kernel)
theorem dcX11_chain_27 : decode cX11_chain 27 = .ok (.dup, 1) := dw_at cX11_chain_k1 (p := 3) rfl (by decide +kernel)
theorem dcX11_chain_28 : decode cX11_chain 28 = .ok (.ldc_w 367, 3) := dw_at cX11_chain_k1 (p := 4) rfl (by decide +kernel)
theorem dcX11_chain_31 : decode cX11_chain 31 = .ok (.invokespecial 132, 3) := dw_at cX11_chain_k1 (p := 7) rfl (by decide +kernel)
theorem dcX11_chain_34 : decode cX11_chain 34 = .ok (.athrow, 1) := dw_at cX11_chain_k1 (p := 10) rfl (by decide +kernel)
theorem dcX11_chain_35 : decode cX11_chain 35 = .ok (.aload_n 0, 1) := dw_at cX11_chain_k1 (p := 11) rfl (by decide +kernel)
theorem dcX11_chain_36 : decode cX11_chain 36 = .ok (.getfield 27, 3) := dw_at cX11_chain_k1 (p := 12) rfl (by decide +kernel)
theorem dcX11_chain_39 : decode cX11_chain 39 = .ok (.aload_n 0, 1) := dw_at cX11_chain_k1 (p := 15) rfl (by decide +kernel)
theorem dcX11_chain_40 : decode cX11_chain 40 = .ok (.getfield 14, 3) := dw_at cX11_chain_k1 (p := 16) rfl (by decide +kernel)
theorem dcX11_chain_43 : decode cX11_chain 43 = .ok (.iload_n 1, 1) := dw_at cX11_chain_k1 (p := 19) rfl (by decide +kernel)
theorem dcX11_chain_44 : decode cX11_chain 44 = .ok (.invokevirtual 194, 3) := dw_at cX11_chain_k1 (p := 20) rfl (by decide +kernel)
theorem dcX11_chain_47 : decode cX11_chain 47 = .ok (.aload_n 0, 1) := dw_at cX11_chain_k1 (p := 23) rfl (by decide +kernel)
theorem dcX11_chain_48 : decode cX11_chain 48 = .ok (.getfield 27, 3) := dw_at cX11_chain_k2 (p := 0) rfl (by decide +kernel)
theorem dcX11_chain_51 : decode cX11_chain 51 = .ok (.invokevirtual 207, 3) := dw_at cX11_chain_k2 (p := 3) rfl (by decide +kernel)
theorem dcX11_chain_54 : decode cX11_chain 54 = .ok (.aload_n 0, 1) := dw_at cX11_chain_k2 (p := 6) rfl (by decide +kernel)
theorem dcX11_chain_55 : decode cX11_chain 55 = .ok (.getfield 27, 3) := dw_at cX11_chain_k2 (p := 7) rfl (by decide +kernel)
theorem dcX11_chain_58 : decode cX11_chain 58 = .ok (.getfield 198, 3) := dw_at cX11_chain_k2 (p := 10) rfl (by decide +kernel)
theorem dcX11_chain_61 : decode cX11_chain 61 = .ok (.aload_n 0, 1) := dw_at cX11_chain_k2 (p := 13) rfl (by decide +kernel)
theorem dcX11_chain_62 : decode cX11_chain 62 = .ok (.getfield 27, 3) := dw_at cX11_chain_k2 (p := 14) rfl (by decide +kernel)
theorem dcX11_chain_65 : decode cX11_chain 65 = .ok (.getfield 210, 3) := dw_at cX11_chain_k2 (p := 17) rfl (by decide +kernel)
theorem dcX11_chain_68 : decode cX11_chain 68 = .ok (.iadd, 1) := dw_at cX11_chain_k2 (p := 20) rfl (by decide +kernel)
theorem dcX11_chain_69 : decode cX11_chain 69 = .ok (.aload_n 0, 1) := dw_at cX11_chain_k2 (p := 21) rfl (by decide +kernel)
theorem dcX11_chain_70 : decode cX11_chain 70 = .ok (.getfield 27, 3) := dw_at cX11_chain_k2 (p := 22) rfl (by decide +kernel)
theorem dcX11_chain_73 : decode cX11_chain 73 = .ok (.getfield 204, 3) := dw_at cX11_chain_k3 (p := 0) rfl (by decide +kernel)
theorem dcX11_chain_76 : decode cX11_chain 76 = .ok (.iadd, 1) := dw_at cX11_chain_k3 (p := 3) rfl (by decide +kernel)
theorem dcX11_chain_77 : decode cX11_chain 77 = .ok (.bipush 9, 2) := dw_at cX11_chain_k3 (p := 4) rfl (by decide +kernel)
theorem dcX11_chain_79 : decode cX11_chain 79 = .ok (.if_icmp .le 14, 3) := dw_at cX11_chain_k3 (p := 6) rfl (by decide +kernel)
theorem dcX11_chain_82 : decode cX11_chain 82 = .ok (.new 263, 3) := dw_at cX11_chain_k3 (p := 9) rfl (by decide +kernel)
theorem dcX11_chain_85 : decode cX11_chain 85 = .ok (.dup, 1) := dw_at cX11_chain_k3 (p := 12) rfl (by decide +kernel)
theorem dcX11_chain_86 : decode cX11_chain 86 = .ok (.ldc_w 369, 3) := dw_at cX11_chain_k3 (p := 13) rfl (by decide +kernel)
theorem dcX11_chain_89 : decode cX11_chain 89 = .ok (.invokespecial 267, 3) := dw_at cX11_chain_k3 (p := 16) rfl (by decide +kernel)
theorem dcX11_chain_92 : decode cX11_chain 92 = .ok (.athrow, 1) := dw_at cX11_chain_k3 (p := 19) rfl (by decide +kernel)
theorem dcX11_chain_93 : decode cX11_chain 93 = .ok (.aload_n 0, 1) := dw_at cX11_chain_k3 (p := 20) rfl (by decide +kernel)
theorem dcX11_chain_94 : decode cX11_chain 94 = .ok (.getfield 79, 3) := dw_at cX11_chain_k3 (p := 21) rfl (by decide +kernel)
theorem dcX11_chain_97 : decode cX11_chain 97 = .ok (.aload_n 0, 1) := dw_at cX11_chain_k4 (p := 0) rfl (by decide +kernel)
theorem dcX11_chain_98 : decode cX11_chain 98 = .ok (.getfield 27, 3) := dw_at cX11_chain_k4 (p := 1) rfl (by decide +kernel)
theorem dcX11_chain_101 : decode cX11_chain 101 = .ok (.iload_n 2, 1) := dw_at cX11_chain_k4 (p := 4) rfl (by decide +kernel)
theorem dcX11_chain_102 : decode cX11_chain 102 = .ok (.invokevirtual 371, 3) := dw_at cX11_chain_k4 (p := 5) rfl (by decide +kernel)
theorem dcX11_chain_105 : decode cX11_chain 105 = .ok (.ireturn, 1) := dw_at cX11_chain_k4 (p := 8) rfl (by decide +kernel)
def ce_X11_chain (K : Nat) (r0 : Nat) (x1 : Int32) (x2 : Int32) (vl : Nat → Nat) (z : ow_MS) : Option (Nat × Int32 × (Nat → Nat) × ow_MS) :=
 tc0 (ce_X11_needDiagram vl K r0 x1 z) (fun k z => some (k, 0, vl, z)) fun z1 => (if x2 < 2 then some (2, 0, vl, z1)
 else (if 997 < x2 then some (2, 0, vl, z1)
 else cs1 (ce_X11_isPrime vl K x2 z1) fun v4 z3 => (if v4 = 0 then some (2, 0, vl, z3)
 else cs0 (ce_X7_load vl K (r0 + 4000) (r0 + 1000) x1 z3) fun z5 => cs0 (ce_X7_markParts vl K (r0 + 4000) z5) fun z6 => rdF z6 ((r0 + 4000) + 8) fun v7 => rdF z6 ((r0 + 4000) + 11) fun v8 => rdF z6 ((r0 + 4000) + 9) fun v9 => (if ((v7 + v8) + v9) ≤ 9 then dc1 (de_X1_compute K (r0 + 43000) (r0 + 4000) x2 vl z6) fun v11 vm12 z10 => some (0, v11, vm12, z10)
 else some (4, 0, vl, z6)))))
abbrev wc_X11_chain : List Cond := .code yX11_chain cX11_chain 3 (some .int) :: wTD
set_option maxHeartbeats 4000000 in
set_option maxRecDepth 100000 in
theorem kc_X11_chain (l : Launch) (D : va_G) (q : Nat → ClassId) (vl u : Nat → Nat) (hU0 : tw_inj (cX vl) u) (hlt : l.stackTraces = false) (sa : Nat → Nat) (K : Nat) (r0 : Nat) (x1 x2 : Int32) (hr0 : cw_X11 r0) (z z1 : ow_MS) (vlE : Nat → Nat) (k9 : Nat) (r : Int32) (sz : Nat) (hq : ce_X11_chain K r0 x1 x2 vl z = some (k9, r, vlE, z1)) : vx_Met l yX11_chain wc_X11_chain ({ frames := 7, cells := 2 + dca vl vlE, slots := 12 + dsl vl vlE, locals := 204 } : Room) (va_Pc [.ref (u r0), .int x1, .int x2] (cw_preTD D q vl u sa z sz)) (va_Qi (fun x (u1 : Nat → Nat) => k9 = 0 ∧ x = r ∧ cd_U u u1 sz) (fun u1 t => va_P D vwCl (uw (cX vlE) q u1 z1) t.heap) (cd_A u sz)) (ctd_X D q vlE u (cd_A u sz) k9 z1) (2 + dca vl vlE) (12 + dsl vl vlE) (cd_A u sz) := by
  refine vx_ofW (cc := cX11_chain) (maxL := 3) (ret := (some .int)) (by decide) rfl ?_
  intro p e s m args below meth c s₁ B hml hex hv
  obtain ⟨rfl, rfl, hP, hK, hTh⟩ := hv
  have hx := B.exec
  have hb := B.bytes
  have hr := B.returns
  have hts := atoms_spec (ws := wc_X11_chain) B.pre
  have hT : ∀ w ∈ wC, w.before ([.ref (u r0), .int x1, .int x2] : List Value).toArray s = true := fun w h => hts w (List.mem_cons_of_mem _ (wTD_C w h))
  have hown : s.vm.findClass RX11 = some m.cls := findClass_of_methodNamed B.named
  have hlocks := B.notSynchronized
  have hA : ∀ q1 : Nat, s.heap.size ≤ q1 → cd_A u s.heap.size q1 := fun q1 h => Or.inr h
  have hU : uw_inj (cX vl) u (cd_A u s.heap.size) := ⟨hU0, fun h hh => Or.inl ⟨h, hh, rfl⟩⟩
  have hM : uw_M D vwCl (cX vl) q (cd_A u s.heap.size) s.heap u z s.heap [] := ⟨hP, va_S.rf⟩
  have hl := lv_entry ([.ref (u r0), .int x1, .int x2]) (n := 3) (Nat.le_of_ble_eq_true rfl)
  rw [lg_entry_eq]
  generalize (lg_sl ([.ref (u r0), .int x1, .int x2]) ++ List.replicate (3 - (lg_sl ([.ref (u r0), .int x1, .int x2])).length) Slot.unset).toArray = ls at hl ⊢
  have hl : lv_has ls 3 [(0, .ref (u r0)), (1, .int x1), (2, .int x2)] := hl
  refine ow_named (fun QQ hQQ => ?_)
  generalize ([.ref (u r0), .int x1, .int x2] : List Value).toArray = args at hts hT hQQ ⊢
  unfold ce_X11_chain at hq
  suffices key : ∀ (H : Heap) (locs : List Loc), uw_M D vwCl (cX vl) q (cd_A u s.heap.size) s.heap u z H locs → W p l e ({ frames := 7, cells := 2 + dca vl vlE, slots := 12 + dsl vl vlE, locals := 204 } : Room) s m args below meth c H locs 0 0 QQ (F0 m 0 ls []) from key s.heap [] hM
  intro H locs hM
  refine lv_aload_n hx hb dcX11_chain_0 rfl (lv_at hl 0 rfl) ?_
  refine lv_iload_n hx hb dcX11_chain_1 rfl (lv_at hl 1 rfl) ?_
  obtain ⟨k2, z1, hcq, hq⟩ := ct_tc0 hq
  refine ct_calv hU hM (vx_runV (As := [.int x1]) (rest := []) ⟨hx, hb, hml, hown, hts⟩ (kc_X11_needDiagram l D q vl u hU.1 hlt sa K r0 x1 hr0 z z1 k2 hcq) (cwV 1 hts (tw_gV2 wTD_good (fun w h => List.mem_cons_of_mem _ h) (wTD_C _ xq_818) (wTD_C _ xq_819) (wTD_C _ xq_820) (wTD_C _ xq_773) (wTD_C _ xq_807)) rfl rfl rfl cdd_X11_needDiagram ⟨(Nat.le_of_ble_eq_true rfl), (Nat.le_of_ble_eq_true rfl)⟩) (ctd_preV hK hTh hU hM (co_X11 hr0) rfl) rfl rfl hl.1 rfl (lv_room (Nat.le_of_ble_eq_true rfl)) dcX11_chain_2 ⟨(by show 0 + 1 ≤ 2 + dca vl vlE; omega), (by show 0 + 6 ≤ 12 + dsl vl vlE; omega)⟩) (fun E ce q9 H locs hk hE hM hce hcv hcl => ?_) (fun H locs hk hM => ?_)
  · have hq := tw_if hq hk
    obtain ⟨rfl, h9⟩ := Prod.mk.inj (Option.some.inj hq)
    obtain ⟨_, h9⟩ := Prod.mk.inj h9
    obtain ⟨rfl, rfl⟩ := Prod.mk.inj h9
    exact ctd_out hex hlocks hk hE hM hce hcv hcl hQQ (by show 0 + 1 ≤ 2 + dca vl _; omega) (by show 0 + 6 ≤ 12 + dsl vl _; omega)
  have hq := tw_it hq hk
  refine lv_iload_n hx hb dcX11_chain_5 rfl (lv_at hl 2 rfl) ?_
  refine lv_iconst (v := 2) hx hb dcX11_chain_6 (by decide) ?_
  refine lv_icmp_lt (tgt := 24) hx hb dcX11_chain_7 (by decide) (fun hc => ?_) (fun hc => ?_)
  · have hq := tw_it hq hc
    obtain ⟨rfl, h9⟩ := Prod.mk.inj (Option.some.inj hq)
    obtain ⟨_, h9⟩ := Prod.mk.inj h9
    obtain ⟨rfl, rfl⟩ := Prod.mk.inj h9
    exact ctd_throwW (k := 2) (text := "a prime from 2 to 997 is needed") (cls := "java/lang/IllegalArgumentException") hx hb hlt hown hex hlocks (by rw [hml]; exact hl.1.symm) hTh (List.mem_of_getElem? (i := 21) rfl) rfl (by decide) (by decide +kernel) (hts _ (List.mem_cons_of_mem _ (List.mem_cons_of_mem _ wT_k2))) (hts _ (List.mem_cons_of_mem _ (List.mem_cons_of_mem _ wT_i2))) (fun w h => hts w (List.mem_cons_of_mem _ (List.mem_cons_of_mem _ (wT_2 w h)))) th9_2 tg9_2 hM dcX11_chain_24 dcX11_chain_27 dcX11_chain_28 dcX11_chain_31 dcX11_chain_34 hQQ (Nat.le_of_ble_eq_true rfl) (Nat.le_of_ble_eq_true rfl) (by show 1 + 1 ≤ 2 + dca vl _; omega) (by show 6 + 6 ≤ 12 + dsl vl _; omega) (by show 1 + 1 ≤ 2 + dca vl _; omega) (by show 6 + 6 ≤ 12 + dsl vl _; omega)
  · have hq := tw_if hq hc
    refine lv_iload_n hx hb dcX11_chain_10 rfl (lv_at hl 2 rfl) ?_
    refine lv_sipush (v := 997) hx hb dcX11_chain_11 (by decide) ?_
    refine lv_icmp_gt (tgt := 24) hx hb dcX11_chain_14 (by decide) (fun hc => ?_) (fun hc => ?_)
    · have hq := tw_it hq hc
      obtain ⟨rfl, h9⟩ := Prod.mk.inj (Option.some.inj hq)
      obtain ⟨_, h9⟩ := Prod.mk.inj h9
      obtain ⟨rfl, rfl⟩ := Prod.mk.inj h9
      exact ctd_throwW (k := 2) (text := "a prime from 2 to 997 is needed") (cls := "java/lang/IllegalArgumentException") hx hb hlt hown hex hlocks (by rw [hml]; exact hl.1.symm) hTh (List.mem_of_getElem? (i := 21) rfl) rfl (by decide) (by decide +kernel) (hts _ (List.mem_cons_of_mem _ (List.mem_cons_of_mem _ wT_k2))) (hts _ (List.mem_cons_of_mem _ (List.mem_cons_of_mem _ wT_i2))) (fun w h => hts w (List.mem_cons_of_mem _ (List.mem_cons_of_mem _ (wT_2 w h)))) th9_2 tg9_2 hM dcX11_chain_24 dcX11_chain_27 dcX11_chain_28 dcX11_chain_31 dcX11_chain_34 hQQ (Nat.le_of_ble_eq_true rfl) (Nat.le_of_ble_eq_true rfl) (by show 1 + 1 ≤ 2 + dca vl _; omega) (by show 6 + 6 ≤ 12 + dsl vl _; omega) (by show 1 + 1 ≤ 2 + dca vl _; omega) (by show 6 + 6 ≤ 12 + dsl vl _; omega)
    · have hq := tw_if hq hc
      refine lv_iload_n hx hb dcX11_chain_17 rfl (lv_at hl 2 rfl) ?_
      obtain ⟨v4, z3, hcq, hq⟩ := tw_cl1 hq
      refine uw_cali hU hM (va_runS (As := [.int x2]) (rest := []) ⟨hx, hb, hml, hown, hts⟩ (kc_X11_isPrime l D q vl u hU.1 K x2 z1 z3 v4 hcq) (va_cwS 1 hts (tw_gS2 wTD_good wTD_C (wTD_C _ xq_935) (wTD_C _ xq_936) (wTD_C _ xq_773) (wTD_C _ xq_937)) rfl rfl rfl cdd_X11_isPrime ⟨(Nat.le_of_ble_eq_true rfl), (Nat.le_of_ble_eq_true rfl)⟩) (cw_preS hK hM) rfl rfl hl.1 rfl (lv_room (Nat.le_of_ble_eq_true rfl)) dcX11_chain_18 ⟨(by show 1 ≤ 2 + dca vl vlE; omega), (by show 6 ≤ 12 + dsl vl vlE; omega)⟩) (fun H locs hM => ?_)
      refine lv_if_ne (tgt := 35) hx hb dcX11_chain_21 (by decide) (fun hc => ?_) (fun hc => ?_)
      · have hq := tw_if hq hc
        refine lv_aload_n hx hb dcX11_chain_35 rfl (lv_at hl 0 rfl) ?_
        refine vgX11_27 hx hb hT hown hK hM hr0 dcX11_chain_36 ?_
        refine lv_aload_n hx hb dcX11_chain_39 rfl (lv_at hl 0 rfl) ?_
        refine vgX11_14 hx hb hT hown hK hM hr0 dcX11_chain_40 ?_
        refine lv_iload_n hx hb dcX11_chain_43 rfl (lv_at hl 1 rfl) ?_
        obtain ⟨z5, hcq, hq⟩ := tw_cl0 hq
        refine uw_calv hU hM (va_runV (As := [.ref (u (r0 + 1000)), .int x1]) (rest := []) ⟨hx, hb, hml, hown, hts⟩ (kc_X7_load l D q vl u hU.1 K (r0 + 4000) (r0 + 1000) x1 (cs_X11_3 hr0) (cs_X11_0 hr0) z3 z5 hcq) (cwV 2 hts (tw_gV2 wTD_good wTD_C (wTD_C _ xq_821) (wTD_C _ xq_468) (wTD_C _ xq_469) (wTD_C _ xq_54) (wTD_C _ xq_470)) rfl rfl rfl cdd_X7_load ⟨(Nat.le_of_ble_eq_true rfl), (Nat.le_of_ble_eq_true rfl)⟩) (cw_preV hK hM (co_X7 (cs_X11_3 hr0)) rfl) rfl rfl hl.1 rfl (lv_room (Nat.le_of_ble_eq_true rfl)) dcX11_chain_44 ⟨(by show 1 ≤ 2 + dca vl vlE; omega), (by show 6 ≤ 12 + dsl vl vlE; omega)⟩) (fun H locs hM => ?_)
        refine lv_aload_n hx hb dcX11_chain_47 rfl (lv_at hl 0 rfl) ?_
        refine vgX11_27 hx hb hT hown hK hM hr0 dcX11_chain_48 ?_
        obtain ⟨z6, hcq, hq⟩ := tw_cl0 hq
        refine uw_calv hU hM (va_runV (As := []) (rest := []) ⟨hx, hb, hml, hown, hts⟩ (kc_X7_markParts l D q vl u hU.1 K (r0 + 4000) (cs_X11_3 hr0) z5 z6 hcq) (cwV 0 hts (tw_gV2 wTD_good wTD_C (wTD_C _ xq_822) (wTD_C _ xq_52) (wTD_C _ xq_53) (wTD_C _ xq_54) (wTD_C _ xq_55)) rfl rfl rfl cdd_X7_markParts ⟨(Nat.le_of_ble_eq_true rfl), (Nat.le_of_ble_eq_true rfl)⟩) (cw_preV hK hM (co_X7 (cs_X11_3 hr0)) rfl) rfl rfl hl.1 rfl (lv_room (Nat.le_of_ble_eq_true rfl)) dcX11_chain_51 ⟨(by show 1 ≤ 2 + dca vl vlE; omega), (by show 6 ≤ 12 + dsl vl vlE; omega)⟩) (fun H locs hM => ?_)
        refine lv_aload_n hx hb dcX11_chain_54 rfl (lv_at hl 0 rfl) ?_
        refine vgX11_27 hx hb hT hown hK hM hr0 dcX11_chain_55 ?_
        refine vgX11_198 hx hb hT hown hK hM (cs_X11_3 hr0) hq dcX11_chain_58 (fun v7 hq => ?_)
        refine lv_aload_n hx hb dcX11_chain_61 rfl (lv_at hl 0 rfl) ?_
        refine vgX11_27 hx hb hT hown hK hM hr0 dcX11_chain_62 ?_
        refine vgX11_210 hx hb hT hown hK hM (cs_X11_3 hr0) hq dcX11_chain_65 (fun v8 hq => ?_)
        refine lv_iadd hx hb dcX11_chain_68 ?_
        refine lv_aload_n hx hb dcX11_chain_69 rfl (lv_at hl 0 rfl) ?_
        refine vgX11_27 hx hb hT hown hK hM hr0 dcX11_chain_70 ?_
        refine vgX11_204 hx hb hT hown hK hM (cs_X11_3 hr0) hq dcX11_chain_73 (fun v9 hq => ?_)
        refine lv_iadd hx hb dcX11_chain_76 ?_
        refine lv_bipush (v := 9) hx hb dcX11_chain_77 (by decide) ?_
        refine lv_icmp_le (tgt := 93) hx hb dcX11_chain_79 (by decide) (fun hc => ?_) (fun hc => ?_)
        · have hq := tw_it hq hc
          refine lv_aload_n hx hb dcX11_chain_93 rfl (lv_at hl 0 rfl) ?_
          refine vgX11_79 hx hb hT hown hK hM hr0 dcX11_chain_94 ?_
          refine lv_aload_n hx hb dcX11_chain_97 rfl (lv_at hl 0 rfl) ?_
          refine vgX11_27 hx hb hT hown hK hM hr0 dcX11_chain_98 ?_
          refine lv_iload_n hx hb dcX11_chain_101 rfl (lv_at hl 2 rfl) ?_
          obtain ⟨v11, vm12, z10, hcq, hq⟩ := dd_dc1 hq
          obtain ⟨rfl, h91⟩ := Prod.mk.inj (Option.some.inj hq)
          obtain ⟨rfl, h92⟩ := Prod.mk.inj h91
          obtain ⟨rfl, rfl⟩ := Prod.mk.inj h92
          refine va_calli (va_runV (As := [.ref (u (r0 + 4000)), .int x2]) (rest := []) ⟨hx, hb, hml, hown, hts⟩ (kd_X1_compute l D q vl u hU.1 K (r0 + 43000) (r0 + 4000) x2 (cs_X11_11 hr0) (cs_X11_3 hr0) z6 z10 vm12 v11 H.size hcq) (cwV 2 hts (tw_gV2 wTD_good wTD_D (wTD_C _ xq_938) (wTD_C _ xq_939) (wTD_C _ xq_940) (wTD_C _ xq_138) (wTD_C _ xq_265)) rfl rfl rfl cdd_X1_compute ⟨(Nat.le_of_ble_eq_true rfl), (Nat.le_of_ble_eq_true rfl)⟩) (dd_preV hK hM (co_X1 (cs_X11_11 hr0)) rfl) rfl rfl hl.1 rfl (lv_room (Nat.le_of_ble_eq_true rfl)) dcX11_chain_102 ⟨(by show 1 + dca vl _ ≤ 2 + dca vl _; omega), (by show 6 + dsl vl _ ≤ 12 + dsl vl _; omega)⟩) hM.2 (fun _ _ h => dd_sub hA hU hM.2.1 h) (fun _ h => dd_sub hA hU hM.2.1 h) (fun r1 u1 t H locs ht _ hw hB _ _ hS => ?_)
          obtain ⟨rfl, hu1, hu2, hu3⟩ := hw
          rw [ht] at hB
          rw [hQQ]
          refine W.widen (k := 2 + dca vl vm12) (n := 12 + dsl vl vm12) (by omega) (by omega) (vx_ret ?_)
          exact W.iret (v := r1) hx hb hr (fun t ht hW => ⟨⟨r1, u1, rfl, ⟨rfl, rfl, hu1, fun h hh => dd_sub hA hU hM.2.1 (hu2 h hh), hu3⟩, by show va_P D vwCl (uw (cX vm12) q u1 z10) t.heap; rw [ht]; exact hB⟩, hS.F ht⟩) hS.2.2 dcX11_chain_105 hlocks
        · have hq := tw_if hq hc
          obtain ⟨rfl, h9⟩ := Prod.mk.inj (Option.some.inj hq)
          obtain ⟨_, h9⟩ := Prod.mk.inj h9
          obtain ⟨rfl, rfl⟩ := Prod.mk.inj h9
          exact ctd_throwW (k := 4) (text := "more than 9 crossings and parts") (cls := "java/lang/UnsupportedOperationException") hx hb hlt hown hex hlocks (by rw [hml]; exact hl.1.symm) hTh (List.mem_of_getElem? (i := 22) rfl) rfl (by decide) (by decide +kernel) (hts _ (List.mem_cons_of_mem _ (List.mem_cons_of_mem _ wT_k4))) (hts _ (List.mem_cons_of_mem _ (List.mem_cons_of_mem _ wT_i4))) (fun w h => hts w (List.mem_cons_of_mem _ (List.mem_cons_of_mem _ (wT_4 w h)))) th9_4 tg9_4 hM dcX11_chain_82 dcX11_chain_85 dcX11_chain_86 dcX11_chain_89 dcX11_chain_92 hQQ (Nat.le_of_ble_eq_true rfl) (Nat.le_of_ble_eq_true rfl) (by show 1 + 1 ≤ 2 + dca vl _; omega) (by show 6 + 6 ≤ 12 + dsl vl _; omega) (by show 1 + 1 ≤ 2 + dca vl _; omega) (by show 6 + 6 ≤ 12 + dsl vl _; omega)
      · have hq := tw_it hq hc
        obtain ⟨rfl, h9⟩ := Prod.mk.inj (Option.some.inj hq)
        obtain ⟨_, h9⟩ := Prod.mk.inj h9
        obtain ⟨rfl, rfl⟩ := Prod.mk.inj h9
        exact ctd_throwW (k := 2) (text := "a prime from 2 to 997 is needed") (cls := "java/lang/IllegalArgumentException") hx hb hlt hown hex hlocks (by rw [hml]; exact hl.1.symm) hTh (List.mem_of_getElem? (i := 21) rfl) rfl (by decide) (by decide +kernel) (hts _ (List.mem_cons_of_mem _ (List.mem_cons_of_mem _ wT_k2))) (hts _ (List.mem_cons_of_mem _ (List.mem_cons_of_mem _ wT_i2))) (fun w h => hts w (List.mem_cons_of_mem _ (List.mem_cons_of_mem _ (wT_2 w h)))) th9_2 tg9_2 hM dcX11_chain_24 dcX11_chain_27 dcX11_chain_28 dcX11_chain_31 dcX11_chain_34 hQQ (Nat.le_of_ble_eq_true rfl) (Nat.le_of_ble_eq_true rfl) (by show 1 + 1 ≤ 2 + dca vl _; omega) (by show 6 + 6 ≤ 12 + dsl vl _; omega) (by show 1 + 1 ≤ 2 + dca vl _; omega) (by show 6 + 6 ≤ 12 + dsl vl _; omega)
