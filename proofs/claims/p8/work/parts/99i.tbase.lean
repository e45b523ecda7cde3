/-! throwing out of a method of the class, with worlds by handles -/
def thN (k : Nat) : String := match k with
  | 1 => "java/lang/IndexOutOfBoundsException"
  | 2 => "java/lang/IllegalArgumentException"
  | 3 => "java/lang/IllegalStateException"
  | _ => "java/lang/UnsupportedOperationException"
def ct_Xs (X : String) (U : State) : Prop := va_Nw (.declares (Bundle.initS "java/lang/RuntimeException")) U ∧ va_Nw (.declares (Bundle.initS "java/lang/Exception")) U ∧ va_Nw (.declares (Bundle.initS Bundle.tN)) U ∧ va_Nw (.castable X X) U
def ct_Th1 (A : Nat → Prop) (k : Nat) (tx : String) (sa : Nat) (X : String) (U : State) : Prop := vk_R RX11 k tx sa U ∧ vx_Zq Bundle.tN "UNASSIGNED_STACK" Bundle.steD A U U.heap ∧ vx_Zq Bundle.tN "SUPPRESSED_SENTINEL" Bundle.listD A U U.heap ∧ ct_Xs X U
theorem ct_Xs.same {X : String} {u U : State} (h : u.vm = U.vm) (hx : ct_Xs X u) : ct_Xs X U := ⟨va_Nw.same rfl h hx.1, va_Nw.same rfl h hx.2.1, va_Nw.same rfl h hx.2.2.1, va_Nw.same rfl h hx.2.2.2⟩
theorem ct_Xs.warm {X : String} {s U : State} (hW : s.WarmedH U.vm) (hx : ct_Xs X s) : ct_Xs X U := ⟨va_Nw.warmD hW hx.1, va_Nw.warmD hW hx.2.1, va_Nw.warmD hW hx.2.2.1, va_Nw.warmC hW hx.2.2.2⟩
theorem ct_Th1.same {A : Nat → Prop} {tx X : String} {k sa : Nat} {u U : State} (h : u.vm = U.vm) (hh : u.heap = U.heap) (hx : ct_Th1 A k tx sa X u) : ct_Th1 A k tx sa X U := by
  obtain ⟨h1, h2, h3, h4⟩ := hx
  rw [hh] at h2 h3
  have hal : u.vm.Alike U.vm := by rw [h]; exact Vm.Alike.refl _
  exact ⟨vk_R.same h.symm h1, h2.moved hal, h3.moved hal, h4.same h⟩
theorem ct_Th1.to {A B : Nat → Prop} {tx X : String} {k sa : Nat} {s U : State} {H : Heap} {locs : List Loc} (hx : ct_Th1 A k tx sa X s) (hS : va_S A s.heap H locs) (hW : s.WarmedH U.vm) (hU : U.heap = H) (hB : ∀ q, B q → A q) : ct_Th1 B k tx sa X U := by
  obtain ⟨h1, h2, h3, h4⟩ := hx
  rw [ct_Th1, hU]
  exact ⟨vk_R.warm hW h1, ((h2.kept (fun a ha hn => hS.2.1 a ha hn)).moved hW.alike).narrow hB, ((h3.kept (fun a ha hn => hS.2.1 a ha hn)).moved hW.alike).narrow hB, h4.warm hW⟩
/-- every text that the class throws with: its constant, the kind -/
def thL : List (Nat × Nat × String) := [(120, 3, "the tape is full"), (130, 2, "the tape has not so many bytes"), (149, 2, "a braid has 2 to 5 strands"), (166, 1, "no such diagram"), (172, 1, "no such braid"), (174, 3, "no place is free for a diagram"), (176, 3, "no place is free for a braid"), (192, 2, "there are six figures"), (222, 1, "no such visit"), (224, 2, "a visit has four numbers"), (238, 2, "two components are needed"), (240, 1, "no such component"), (242, 1, "no such crossing"), (265, 4, "more than 6 components"), (279, 4, "more than 12 crossings or 6 components"), (281, 2, "there are five kinds of moves"), (294, 1, "so many were not found"), (303, 4, "more than 4 crossings"), (350, 2, "colours are counted modulo 1 to 100"), (356, 2, "permutations are of 1 to 4 things"), (358, 4, "more than 7 crossings or 4 components"), (367, 2, "a prime from 2 to 997 is needed"), (369, 4, "more than 9 crossings and parts"), (382, 4, "more than 12 letters"), (388, 2, "as many strands are needed"), (390, 4, "more than 16 letters"), (404, 2, "there are four numbers of a braid"), (432, 4, "summit sets are for 2 to 4 strands"), (434, 4, "more than 10 letters")]
def cw_Th (A : Nat → Prop) (sa : Nat → Nat) (U : State) : Prop := ∀ t ∈ thL, ct_Th1 A t.1 t.2.2 (sa t.1) (thN t.2.1) U
def cw_preT (D : va_G) (q : Nat → ClassId) (vl u sa : Nat → Nat) (z : ow_MS) (U : State) : Prop := va_P D vwCl (uw (cX vl) q u z) U.heap ∧ va_K D vwCl (uw_T q RX7) U ∧ cw_Th (tw_A (cX vl) u) sa U
def tA_1 : List Cond := (vx_atS RX11 168 "java/lang/IndexOutOfBoundsException" ["java/lang/RuntimeException", "java/lang/Exception"]).filter goodWord
def tA_2 : List Cond := (vx_atS RX11 132 "java/lang/IllegalArgumentException" ["java/lang/RuntimeException", "java/lang/Exception"]).filter goodWord
def tA_3 : List Cond := (vx_atS RX11 122 "java/lang/IllegalStateException" ["java/lang/RuntimeException", "java/lang/Exception"]).filter goodWord
def tA_4 : List Cond := (vx_atS RX11 267 "java/lang/UnsupportedOperationException" ["java/lang/RuntimeException", "java/lang/Exception"]).filter goodWord
def tA_0 : List Cond := [.classLink RX11 164 "java/lang/IndexOutOfBoundsException", .initialized "java/lang/IndexOutOfBoundsException", .classLink RX11 128 "java/lang/IllegalArgumentException", .initialized "java/lang/IllegalArgumentException", .classLink RX11 118 "java/lang/IllegalStateException", .initialized "java/lang/IllegalStateException", .classLink RX11 263 "java/lang/UnsupportedOperationException", .initialized "java/lang/UnsupportedOperationException"]
def wT : List Cond := tA_0 ++ (tA_1 ++ (tA_2 ++ (tA_3 ++ (tA_4 ++ wC))))
theorem wT_good : wT.all goodWord = true := by decide +kernel
theorem wT_C : ∀ w ∈ wC, w ∈ wT := fun _ h => List.mem_append_right _ (List.mem_append_right _ (List.mem_append_right _ (List.mem_append_right _ (List.mem_append_right _ h))))
theorem wT_1 : ∀ w ∈ tA_1, w ∈ wT := fun _ h => List.mem_append_right _ (List.mem_append_left _ h)
theorem wT_k1 : Cond.classLink RX11 164 "java/lang/IndexOutOfBoundsException" ∈ wT := List.mem_append_left _ (List.mem_of_getElem? (i := 0) rfl)
theorem wT_i1 : Cond.initialized "java/lang/IndexOutOfBoundsException" ∈ wT := List.mem_append_left _ (List.mem_of_getElem? (i := 1) rfl)
theorem wT_2 : ∀ w ∈ tA_2, w ∈ wT := fun _ h => List.mem_append_right _ (List.mem_append_right _ (List.mem_append_left _ h))
theorem wT_k2 : Cond.classLink RX11 128 "java/lang/IllegalArgumentException" ∈ wT := List.mem_append_left _ (List.mem_of_getElem? (i := 2) rfl)
theorem wT_i2 : Cond.initialized "java/lang/IllegalArgumentException" ∈ wT := List.mem_append_left _ (List.mem_of_getElem? (i := 3) rfl)
theorem wT_3 : ∀ w ∈ tA_3, w ∈ wT := fun _ h => List.mem_append_right _ (List.mem_append_right _ (List.mem_append_right _ (List.mem_append_left _ h)))
theorem wT_k3 : Cond.classLink RX11 118 "java/lang/IllegalStateException" ∈ wT := List.mem_append_left _ (List.mem_of_getElem? (i := 4) rfl)
theorem wT_i3 : Cond.initialized "java/lang/IllegalStateException" ∈ wT := List.mem_append_left _ (List.mem_of_getElem? (i := 5) rfl)
theorem wT_4 : ∀ w ∈ tA_4, w ∈ wT := fun _ h => List.mem_append_right _ (List.mem_append_right _ (List.mem_append_right _ (List.mem_append_right _ (List.mem_append_left _ h))))
theorem wT_k4 : Cond.classLink RX11 263 "java/lang/UnsupportedOperationException" ∈ wT := List.mem_append_left _ (List.mem_of_getElem? (i := 6) rfl)
theorem wT_i4 : Cond.initialized "java/lang/UnsupportedOperationException" ∈ wT := List.mem_append_left _ (List.mem_of_getElem? (i := 7) rfl)
theorem tw_gV2 {c0 cy : Cond} {own C : String} {idx : Nat} {y : MethodName} {L L1 : List Cond} (hL : L1.all goodWord = true) (hs : ∀ w ∈ L, w ∈ L1) (h1 : .methodLink own idx y ∈ L1) (h2 : .instanceMethod y ∈ L1) (h3 : .selects C y y ∈ L1) (h4 : .initialized C ∈ L1) (h5 : cy ∈ L1) : GoodIn (c0 :: L1) (wsV own idx C y (cy :: L)) := by
  have g : ∀ w ∈ L1, w ∈ c0 :: L1 ∧ ((w.onTables && w.keeps) = true ∨ ∃ ty, w = .arrayClass ty) := fun w h => ⟨List.mem_cons_of_mem _ h, good_of_word (List.all_eq_true.mp hL w h)⟩
  intro w hw
  unfold wsV at hw
  rcases List.mem_append.mp hw with h | h
  · simp only [List.mem_cons, List.not_mem_nil, or_false] at h
    rcases h with h | h | h | h
    · rw [h]; exact g _ h1
    · rw [h]; exact g _ h2
    · rw [h]; exact g _ h3
    · rw [h]; exact g _ h4
  · rcases List.mem_cons.mp h with h | h
    · rw [h]; exact g _ h5
    · exact g _ (hs _ h)
theorem tw_gS2 {c0 cy : Cond} {own : String} {idx : Nat} {y : MethodName} {L L1 : List Cond} (hL : L1.all goodWord = true) (hs : ∀ w ∈ L, w ∈ L1) (h1 : .methodLink own idx y ∈ L1) (h2 : .static y ∈ L1) (h4 : .initialized y.cls ∈ L1) (h5 : cy ∈ L1) : GoodIn (c0 :: L1) (va_wsS own idx y (cy :: L)) := by
  have g : ∀ w ∈ L1, w ∈ c0 :: L1 ∧ ((w.onTables && w.keeps) = true ∨ ∃ ty, w = .arrayClass ty) := fun w h => ⟨List.mem_cons_of_mem _ h, good_of_word (List.all_eq_true.mp hL w h)⟩
  intro w hw
  unfold va_wsS at hw
  rcases List.mem_append.mp hw with h | h
  · simp only [List.mem_cons, List.not_mem_nil, or_false] at h
    rcases h with h | h | h
    · rw [h]; exact g _ h1
    · rw [h]; exact g _ h2
    · rw [h]; exact g _ h4
  · rcases List.mem_cons.mp h with h | h
    · rw [h]; exact g _ h5
    · exact g _ (hs _ h)
section TPURE
variable {O : Type}
def tc1 {α : Type} (o : Option (Nat × α × ow_MS)) (E : Nat → ow_MS → Option O) (K : α → ow_MS → Option O) : Option O := match o with
  | none => none
  | some r => if r.1 = 0 then K r.2.1 r.2.2 else E r.1 r.2.2
def tc0 (o : Option (Nat × ow_MS)) (E : Nat → ow_MS → Option O) (K : ow_MS → Option O) : Option O := match o with
  | none => none
  | some r => if r.1 = 0 then K r.2 else E r.1 r.2
theorem ct_tc1 {α : Type} {o : Option (Nat × α × ow_MS)} {E : Nat → ow_MS → Option O} {K : α → ow_MS → Option O} {out : O} (h : tc1 o E K = some out) : ∃ k x z, o = some (k, x, z) ∧ (if k = 0 then K x z else E k z) = some out := by
  cases o with
  | none => cases h
  | some r => exact ⟨r.1, r.2.1, r.2.2, rfl, h⟩
theorem ct_tc0 {o : Option (Nat × ow_MS)} {E : Nat → ow_MS → Option O} {K : ow_MS → Option O} {out : O} (h : tc0 o E K = some out) : ∃ k z, o = some (k, z) ∧ (if k = 0 then K z else E k z) = some out := by
  cases o with
  | none => cases h
  | some r => exact ⟨r.1, r.2, rfl, h⟩
end TPURE
section TRULES
variable {p : Program} {l : Launch} {e : Env} {R : Room} {s : State} {m : MethodId} {args : Array Value} {below : List Frame} {meth : Method} {c : Code} {H : Heap} {locs : List Loc} {cells slots mc ms : Nat} {Q : State → Prop}
variable {cc : ByteArray} {pc : Nat} {ls : Array Slot} {rest : List Value} {D : va_G} {A : Nat → Prop} {H0 : Heap} {q : Nat → ClassId} {vl u sa : Nat → Nat} {z z1 : ow_MS}
/-- what an outcome says when it is thrown -/
def ct_X (D : va_G) (q : Nat → ClassId) (vl u : Nat → Nat) (k : Nat) (z1 : ow_MS) : String → State → State → Prop := vx_X (fun _ : Unit => True) (fun E _ t => k ≠ 0 ∧ E = thN k ∧ va_P D vwCl (uw (cX vl) q u z1) t.heap) (tw_A (cX vl) u)
theorem ct_preV (hK : va_K D vwCl (uw_T q RX7) s) (hTh : cw_Th (tw_A (cX vl) u) sa s) (hM : uw_M D vwCl (cX vl) q (tw_A (cX vl) u) s.heap u z H locs) {h ci : Nat} {fs : List (Nat × Nat)} (hh : tw_ob (cX vl) h ci fs) {r : vw_C} (hc : vwCl[ci]? = some r) {As : List Value} : PreV s H r.1 (u h) (va_Pc (.ref (u h) :: As) (cw_preT D q vl u sa z)) As := by
  obtain ⟨k, hk, _⟩ := uw_at cX_ok hh.1
  have h1 := hk q u z
  rw [uw_c9 q u z hh] at h1
  refine ⟨fun a U g mk q => by obtain ⟨q0, qP, qK, qT⟩ := q; exact ⟨q0, qP, va_K.moved (u := U) (U := U.calling g mk a) (Vm.Alike.refl U.vm) qK, fun t ht => ct_Th1.same (u := U) (U := U.calling g mk a) rfl rfl (qT t ht)⟩, va_recv hK hM.1 hc h1, fun U hU hW => ⟨rfl, by rw [hU]; exact hM.1, va_K.moved hW.alike hK, fun t ht => ct_Th1.to (hTh t ht) hM.2 hW hU (fun q h => h)⟩⟩
theorem ct_cali {a : Array Value} {st0 : List Value} {k : Nat} {r : Int32} (hU : uw_inj (cX vl) u A) (hM : uw_M D vwCl (cX vl) q A H0 u z H locs) (hr : vx_Run p l e R s m args below meth c H locs cells slots mc ms (F0 m pc ls st0) rest (va_Qi (fun x (_ : Unit) => k = 0 ∧ x = r) (fun _ t => va_P D vwCl (uw (cX vl) q u z1) t.heap) (tw_A (cX vl) u) a) (ct_X D q vl u k z1) (tw_A (cX vl) u)) (kx : ∀ (E : String) (ce : Cell) (q9 : Addr) (H1 : Heap) (locs1 : List Loc), k ≠ 0 → E = thN k → uw_M D vwCl (cX vl) q A H0 u z1 H1 locs1 → H1[q9]? = some ce → ce.vm = .none → s.vm.findClass E = some ce.cls → vx_W p l e R s m args below meth c H1 locs1 (cells + mc) (slots + ms) Q (F0 m pc ls rest) q9) (kk : ∀ (H1 : Heap) (locs1 : List Loc), k = 0 → uw_M D vwCl (cX vl) q A H0 u z1 H1 locs1 → W p l e R s m args below meth c H1 locs1 (cells + mc) (slots + ms) Q (F0 m (pc + 3) ls (.int r :: rest))) : W p l e R s m args below meth c H locs cells slots Q (F0 m pc ls st0) := by
  refine vx_calli hr hM.2 (fun _ _ h => uw_sub hU h) (fun _ h => uw_sub hU h) (fun _ _ h => uw_sub hU h) (fun E ce q9 _ t H1 locs1 ht _ _ hB _ _ hS hce hcv hcl => kx E ce q9 H1 locs1 hB.1 hB.2.1 ⟨by rw [← ht]; exact hB.2.2, hS⟩ hce hcv hcl) (fun r1 _ t H1 locs1 ht _ hw hB _ _ hS => ?_)
  rw [hw.2]
  exact kk H1 locs1 hw.1 ⟨by rw [← ht]; exact hB, hS⟩
theorem ct_call {a : Array Value} {st0 : List Value} {k : Nat} {r : Int64} (hU : uw_inj (cX vl) u A) (hM : uw_M D vwCl (cX vl) q A H0 u z H locs) (hr : vx_Run p l e R s m args below meth c H locs cells slots mc ms (F0 m pc ls st0) rest (va_Ql (fun x (_ : Unit) => k = 0 ∧ x = r) (fun _ t => va_P D vwCl (uw (cX vl) q u z1) t.heap) (tw_A (cX vl) u) a) (ct_X D q vl u k z1) (tw_A (cX vl) u)) (kx : ∀ (E : String) (ce : Cell) (q9 : Addr) (H1 : Heap) (locs1 : List Loc), k ≠ 0 → E = thN k → uw_M D vwCl (cX vl) q A H0 u z1 H1 locs1 → H1[q9]? = some ce → ce.vm = .none → s.vm.findClass E = some ce.cls → vx_W p l e R s m args below meth c H1 locs1 (cells + mc) (slots + ms) Q (F0 m pc ls rest) q9) (kk : ∀ (H1 : Heap) (locs1 : List Loc), k = 0 → uw_M D vwCl (cX vl) q A H0 u z1 H1 locs1 → W p l e R s m args below meth c H1 locs1 (cells + mc) (slots + ms) Q (F0 m (pc + 3) ls (.long r :: rest))) : W p l e R s m args below meth c H locs cells slots Q (F0 m pc ls st0) := by
  refine vx_calll hr hM.2 (fun _ _ h => uw_sub hU h) (fun _ h => uw_sub hU h) (fun _ _ h => uw_sub hU h) (fun E ce q9 _ t H1 locs1 ht _ _ hB _ _ hS hce hcv hcl => kx E ce q9 H1 locs1 hB.1 hB.2.1 ⟨by rw [← ht]; exact hB.2.2, hS⟩ hce hcv hcl) (fun r1 _ t H1 locs1 ht _ hw hB _ _ hS => ?_)
  rw [hw.2]
  exact kk H1 locs1 hw.1 ⟨by rw [← ht]; exact hB, hS⟩
theorem ct_calv {a : Array Value} {st0 : List Value} {k : Nat} (hU : uw_inj (cX vl) u A) (hM : uw_M D vwCl (cX vl) q A H0 u z H locs) (hr : vx_Run p l e R s m args below meth c H locs cells slots mc ms (F0 m pc ls st0) rest (va_Qv (fun (_ : Unit) => k = 0) (fun _ t => va_P D vwCl (uw (cX vl) q u z1) t.heap) (tw_A (cX vl) u) a) (ct_X D q vl u k z1) (tw_A (cX vl) u)) (kx : ∀ (E : String) (ce : Cell) (q9 : Addr) (H1 : Heap) (locs1 : List Loc), k ≠ 0 → E = thN k → uw_M D vwCl (cX vl) q A H0 u z1 H1 locs1 → H1[q9]? = some ce → ce.vm = .none → s.vm.findClass E = some ce.cls → vx_W p l e R s m args below meth c H1 locs1 (cells + mc) (slots + ms) Q (F0 m pc ls rest) q9) (kk : ∀ (H1 : Heap) (locs1 : List Loc), k = 0 → uw_M D vwCl (cX vl) q A H0 u z1 H1 locs1 → W p l e R s m args below meth c H1 locs1 (cells + mc) (slots + ms) Q (F0 m (pc + 3) ls rest)) : W p l e R s m args below meth c H locs cells slots Q (F0 m pc ls st0) := by
  refine vx_callv hr hM.2 (fun _ _ h => uw_sub hU h) (fun _ h => uw_sub hU h) (fun _ _ h => uw_sub hU h) (fun E ce q9 _ t H1 locs1 ht _ _ hB _ _ hS hce hcv hcl => kx E ce q9 H1 locs1 hB.1 hB.2.1 ⟨by rw [← ht]; exact hB.2.2, hS⟩ hce hcv hcl) (fun _ t H1 locs1 ht _ hw hB _ _ hS => ?_)
  exact kk H1 locs1 hw ⟨by rw [← ht]; exact hB, hS⟩
theorem ct_iret {x r : Int32} {k : Nat} (hx : p.tables.exec = Jvm.exec) (hb : c.code = cc) (hr : meth.sig.returnType = some .int) (hlocks : meth.locks = false) (hM : uw_M D vwCl (cX vl) q (tw_A (cX vl) u) s.heap u z H locs) (hq : some (0, x, z) = some (k, r, z1)) (hQ : Q = vx_MQ below (va_Qi (fun x (_ : Unit) => k = 0 ∧ x = r) (fun _ t => va_P D vwCl (uw (cX vl) q u z1) t.heap) (tw_A (cX vl) u)) (ct_X D q vl u k z1) args s mc ms (tw_A (cX vl) u)) (h1 : cells ≤ mc) (h2 : slots ≤ ms) (hdg : decode cc pc = .ok (.ireturn, 1)) : W p l e R s m args below meth c H locs cells slots Q (F0 m pc ls [.int x]) := by
  obtain ⟨rfl, h9⟩ := Prod.mk.inj (Option.some.inj hq)
  obtain ⟨rfl, rfl⟩ := Prod.mk.inj h9
  rw [hQ]
  refine W.widen (k := mc) (n := ms) h1 h2 (vx_ret ?_)
  exact W.iret (v := x) hx hb hr (fun t ht hW => ⟨⟨x, (), rfl, ⟨rfl, rfl⟩, by show va_P D vwCl (uw (cX vl) q u z) t.heap; rw [ht]; exact hM.1⟩, hM.2.F ht⟩) hM.2.2.2 hdg hlocks
theorem ct_lret {x r : Int64} {k : Nat} (hx : p.tables.exec = Jvm.exec) (hb : c.code = cc) (hr : meth.sig.returnType = some .long) (hlocks : meth.locks = false) (hM : uw_M D vwCl (cX vl) q (tw_A (cX vl) u) s.heap u z H locs) (hq : some (0, x, z) = some (k, r, z1)) (hQ : Q = vx_MQ below (va_Ql (fun x (_ : Unit) => k = 0 ∧ x = r) (fun _ t => va_P D vwCl (uw (cX vl) q u z1) t.heap) (tw_A (cX vl) u)) (ct_X D q vl u k z1) args s mc ms (tw_A (cX vl) u)) (h1 : cells ≤ mc) (h2 : slots ≤ ms) (hdg : decode cc pc = .ok (.lreturn, 1)) : W p l e R s m args below meth c H locs cells slots Q (F0 m pc ls [.long x]) := by
  obtain ⟨rfl, h9⟩ := Prod.mk.inj (Option.some.inj hq)
  obtain ⟨rfl, rfl⟩ := Prod.mk.inj h9
  rw [hQ]
  refine W.widen (k := mc) (n := ms) h1 h2 (vx_ret ?_)
  exact W.lret (v := x) hx hb hr (fun t ht hW => ⟨⟨x, (), rfl, ⟨rfl, rfl⟩, by show va_P D vwCl (uw (cX vl) q u z) t.heap; rw [ht]; exact hM.1⟩, hM.2.F ht⟩) hM.2.2.2 hdg hlocks
theorem ct_vret {k : Nat} (hx : p.tables.exec = Jvm.exec) (hb : c.code = cc) (hr : meth.sig.returnType = none) (hlocks : meth.locks = false) (hM : uw_M D vwCl (cX vl) q (tw_A (cX vl) u) s.heap u z H locs) (hq : some (0, z) = some (k, z1)) (hQ : Q = vx_MQ below (va_Qv (fun (_ : Unit) => k = 0) (fun _ t => va_P D vwCl (uw (cX vl) q u z1) t.heap) (tw_A (cX vl) u)) (ct_X D q vl u k z1) args s mc ms (tw_A (cX vl) u)) (h1 : cells ≤ mc) (h2 : slots ≤ ms) (hdg : decode cc pc = .ok (.return_, 1)) : W p l e R s m args below meth c H locs cells slots Q (F0 m pc ls []) := by
  obtain ⟨rfl, rfl⟩ := Prod.mk.inj (Option.some.inj hq)
  rw [hQ]
  refine W.widen (k := mc) (n := ms) h1 h2 (vx_ret ?_)
  exact W.vret hx hb hr (fun t ht hW => ⟨⟨(), rfl, rfl, by show va_P D vwCl (uw (cX vl) q u z) t.heap; rw [ht]; exact hM.1⟩, hM.2.F ht⟩) hM.2.2.2 hdg hlocks
theorem ct_out {Qc : Array Value → State → Outcome → State → Prop} {E : String} {ce : Cell} {q9 : Addr} {k : Nat} (hex : ∀ x ∈ c.exceptionTable.toList, False) (hlocks : meth.locks = false) (hk : k ≠ 0) (hE : E = thN k) (hM : uw_M D vwCl (cX vl) q (tw_A (cX vl) u) s.heap u z1 H locs) (hce : H[q9]? = some ce) (hcv : ce.vm = .none) (hcl : s.vm.findClass E = some ce.cls) (hQ : Q = vx_MQ below Qc (ct_X D q vl u k z1) args s mc ms (tw_A (cX vl) u)) (h1 : cells ≤ mc) (h2 : slots ≤ ms) : vx_W p l e R s m args below meth c H locs cells slots Q (F0 m pc ls rest) q9 := by
  rw [hQ]
  exact vx_out (fun x h => (hex x h).elim) hlocks hce hcv hcl (fun t9 ht9 hal => ⟨(), trivial, ⟨hk, hE, by rw [ht9]; exact hM.1⟩, hM.2.F ht9⟩) hM.2.2.2 h1 h2
theorem ct_throw {Qc : Array Value → State → Outcome → State → Prop} {k ik is ic : Nat} {cls text : String} (hx : p.tables.exec = Jvm.exec) (hb : c.code = cc) (hlt : l.stackTraces = false) (hown : s.vm.findClass RX11 = some m.cls) (hex : ∀ x ∈ c.exceptionTable.toList, False) (hlocks : meth.locks = false) (hml : c.maxLocals = ls.size) (hTh : cw_Th (tw_A (cX vl) u) sa s) (ht : (is, k, text) ∈ thL) (hcls : cls = thN k) (hk0 : k ≠ 0) (hcl : Bundle.fit cls = true) (hk : (Cond.classLink RX11 ik cls).before args s = true) (hini : (Cond.initialized cls).before args s = true) (hat : ∀ w ∈ (vx_atS RX11 ic cls ["java/lang/RuntimeException", "java/lang/Exception"]).filter goodWord, w.before args s = true) (hA9 : ∀ w ∈ (vx_atS RX11 ic cls ["java/lang/RuntimeException", "java/lang/Exception"]).filter (fun w => !goodWord w), w ∈ ([.declares (Bundle.initS "java/lang/RuntimeException"), .declares (Bundle.initS "java/lang/Exception"), .declares (Bundle.initS Bundle.tN), .castable cls cls] : List Cond)) (hgood : ∀ w ∈ Cond.classLink RX11 ik cls :: Cond.initialized cls :: vx_atS RX11 ic cls ["java/lang/RuntimeException", "java/lang/Exception"], vx_ot w = true) (hM : uw_M D vwCl (cX vl) q (tw_A (cX vl) u) s.heap u z H locs)
    (d0 : decode cc pc = .ok (.new ik, 3)) (d3 : decode cc (pc + 3) = .ok (.dup, 1)) (d4 : decode cc (pc + 4) = .ok (.ldc is, 2)) (d6 : decode cc (pc + 6) = .ok (.invokespecial ic, 3)) (d9 : decode cc (pc + 9) = .ok (.athrow, 1))
    (hQ : Q = vx_MQ below Qc (ct_X D q vl u k z) args s mc ms (tw_A (cX vl) u)) (hf : 5 < R.frames) (hlo : (rest.map fun v => v.category).sum + 82 ≤ R.locals) (hc1 : cells + 1 ≤ R.cells) (hs1 : slots + 6 ≤ R.slots) (h1 : cells + 1 ≤ mc) (h2 : slots + 6 ≤ ms) : W p l e R s m args below meth c H locs cells slots Q (F0 m pc ls rest) := by
  have hT1 : ct_Th1 (tw_A (cX vl) u) is text (sa is) cls s := by
    have h := hTh _ ht
    rw [hcls]
    exact h
  rw [hQ]
  exact vx_throwS (own := RX11) (cls := cls) (text := text) (names := ["java/lang/RuntimeException", "java/lang/Exception"]) (A := tw_A (cX vl) u) hx hb hlt hown hcl (by decide +kernel) hk hini hT1.1 (vx_hat hat (B := [.declares (Bundle.initS "java/lang/RuntimeException"), .declares (Bundle.initS "java/lang/Exception"), .declares (Bundle.initS Bundle.tN), .castable cls cls]) hA9 (vx_c (va_Nw.use rfl hT1.2.2.2.1) (vx_c (va_Nw.use rfl hT1.2.2.2.2.1) (vx_c (va_Nw.use rfl hT1.2.2.2.2.2.1) (vx_c (va_Nw.use rfl hT1.2.2.2.2.2.2) vx_n))))) hgood hT1.2.1 hT1.2.2.1 hM.2 hml.symm d0 d3 d4 d6 d9 (fun x h => (hex x h).elim) hf (Nat.le_trans (Nat.add_le_add_left (Nat.le_of_ble_eq_true rfl) _) hlo) hc1 hs1 hlocks (fun t h3 h4 h5 => ⟨(), trivial, ⟨hk0, hcls, hM.1.kept (fun k9 x9 h9 => h5 x9.1 ((hM.1 k9 x9 h9).lt))⟩, Nat.le_trans hM.2.1 h4, fun q h6 h7 => (h5 q (Nat.lt_of_lt_of_le h6 hM.2.1)).trans (hM.2.2.1 q h6 h7)⟩) hM.2.2.2 h1 h2
theorem ct_throwW {Qc : Array Value → State → Outcome → State → Prop} {k ik is ic : Nat} {cls text : String} (hx : p.tables.exec = Jvm.exec) (hb : c.code = cc) (hlt : l.stackTraces = false) (hown : s.vm.findClass RX11 = some m.cls) (hex : ∀ x ∈ c.exceptionTable.toList, False) (hlocks : meth.locks = false) (hml : c.maxLocals = ls.size) (hTh : cw_Th (tw_A (cX vl) u) sa s) (ht : (is, k, text) ∈ thL) (hcls : cls = thN k) (hk0 : k ≠ 0) (hcl : Bundle.fit cls = true) (hk : (Cond.classLink RX11 ik cls).before args s = true) (hini : (Cond.initialized cls).before args s = true) (hat : ∀ w ∈ (vx_atS RX11 ic cls ["java/lang/RuntimeException", "java/lang/Exception"]).filter goodWord, w.before args s = true) (hA9 : ∀ w ∈ (vx_atS RX11 ic cls ["java/lang/RuntimeException", "java/lang/Exception"]).filter (fun w => !goodWord w), w ∈ ([.declares (Bundle.initS "java/lang/RuntimeException"), .declares (Bundle.initS "java/lang/Exception"), .declares (Bundle.initS Bundle.tN), .castable cls cls] : List Cond)) (hgood : ∀ w ∈ Cond.classLink RX11 ik cls :: Cond.initialized cls :: vx_atS RX11 ic cls ["java/lang/RuntimeException", "java/lang/Exception"], vx_ot w = true) (hM : uw_M D vwCl (cX vl) q (tw_A (cX vl) u) s.heap u z H locs)
    (d0 : decode cc pc = .ok (.new ik, 3)) (d3 : decode cc (pc + 3) = .ok (.dup, 1)) (d4 : decode cc (pc + 4) = .ok (.ldc_w is, 3)) (d6 : decode cc (pc + 7) = .ok (.invokespecial ic, 3)) (d9 : decode cc (pc + 10) = .ok (.athrow, 1))
    (hQ : Q = vx_MQ below Qc (ct_X D q vl u k z) args s mc ms (tw_A (cX vl) u)) (hf : 5 < R.frames) (hlo : (rest.map fun v => v.category).sum + 82 ≤ R.locals) (hc1 : cells + 1 ≤ R.cells) (hs1 : slots + 6 ≤ R.slots) (h1 : cells + 1 ≤ mc) (h2 : slots + 6 ≤ ms) : W p l e R s m args below meth c H locs cells slots Q (F0 m pc ls rest) := by
  have hT1 : ct_Th1 (tw_A (cX vl) u) is text (sa is) cls s := by
    have h := hTh _ ht
    rw [hcls]
    exact h
  rw [hQ]
  exact vx_throwSW (own := RX11) (cls := cls) (text := text) (names := ["java/lang/RuntimeException", "java/lang/Exception"]) (A := tw_A (cX vl) u) hx hb hlt hown hcl (by decide +kernel) hk hini hT1.1 (vx_hat hat (B := [.declares (Bundle.initS "java/lang/RuntimeException"), .declares (Bundle.initS "java/lang/Exception"), .declares (Bundle.initS Bundle.tN), .castable cls cls]) hA9 (vx_c (va_Nw.use rfl hT1.2.2.2.1) (vx_c (va_Nw.use rfl hT1.2.2.2.2.1) (vx_c (va_Nw.use rfl hT1.2.2.2.2.2.1) (vx_c (va_Nw.use rfl hT1.2.2.2.2.2.2) vx_n))))) hgood hT1.2.1 hT1.2.2.1 hM.2 hml.symm d0 d3 d4 d6 d9 (fun x h => (hex x h).elim) hf (Nat.le_trans (Nat.add_le_add_left (Nat.le_of_ble_eq_true rfl) _) hlo) hc1 hs1 hlocks (fun t h3 h4 h5 => ⟨(), trivial, ⟨hk0, hcls, hM.1.kept (fun k9 x9 h9 => h5 x9.1 ((hM.1 k9 x9 h9).lt))⟩, Nat.le_trans hM.2.1 h4, fun q h6 h7 => (h5 q (Nat.lt_of_lt_of_le h6 hM.2.1)).trans (hM.2.2.1 q h6 h7)⟩) hM.2.2.2 h1 h2
end TRULES
theorem th9_1 : ∀ w ∈ (vx_atS RX11 168 "java/lang/IndexOutOfBoundsException" ["java/lang/RuntimeException", "java/lang/Exception"]).filter (fun w => !goodWord w), w ∈ ([.declares (Bundle.initS "java/lang/RuntimeException"), .declares (Bundle.initS "java/lang/Exception"), .declares (Bundle.initS Bundle.tN), .castable "java/lang/IndexOutOfBoundsException" "java/lang/IndexOutOfBoundsException"] : List Cond) := by decide +kernel
theorem tg9_1 : ∀ w ∈ Cond.classLink RX11 164 "java/lang/IndexOutOfBoundsException" :: Cond.initialized "java/lang/IndexOutOfBoundsException" :: vx_atS RX11 168 "java/lang/IndexOutOfBoundsException" ["java/lang/RuntimeException", "java/lang/Exception"], vx_ot w = true := by decide +kernel
theorem th9_2 : ∀ w ∈ (vx_atS RX11 132 "java/lang/IllegalArgumentException" ["java/lang/RuntimeException", "java/lang/Exception"]).filter (fun w => !goodWord w), w ∈ ([.declares (Bundle.initS "java/lang/RuntimeException"), .declares (Bundle.initS "java/lang/Exception"), .declares (Bundle.initS Bundle.tN), .castable "java/lang/IllegalArgumentException" "java/lang/IllegalArgumentException"] : List Cond) := by decide +kernel
theorem tg9_2 : ∀ w ∈ Cond.classLink RX11 128 "java/lang/IllegalArgumentException" :: Cond.initialized "java/lang/IllegalArgumentException" :: vx_atS RX11 132 "java/lang/IllegalArgumentException" ["java/lang/RuntimeException", "java/lang/Exception"], vx_ot w = true := by decide +kernel
theorem th9_3 : ∀ w ∈ (vx_atS RX11 122 "java/lang/IllegalStateException" ["java/lang/RuntimeException", "java/lang/Exception"]).filter (fun w => !goodWord w), w ∈ ([.declares (Bundle.initS "java/lang/RuntimeException"), .declares (Bundle.initS "java/lang/Exception"), .declares (Bundle.initS Bundle.tN), .castable "java/lang/IllegalStateException" "java/lang/IllegalStateException"] : List Cond) := by decide +kernel
theorem tg9_3 : ∀ w ∈ Cond.classLink RX11 118 "java/lang/IllegalStateException" :: Cond.initialized "java/lang/IllegalStateException" :: vx_atS RX11 122 "java/lang/IllegalStateException" ["java/lang/RuntimeException", "java/lang/Exception"], vx_ot w = true := by decide +kernel
theorem th9_4 : ∀ w ∈ (vx_atS RX11 267 "java/lang/UnsupportedOperationException" ["java/lang/RuntimeException", "java/lang/Exception"]).filter (fun w => !goodWord w), w ∈ ([.declares (Bundle.initS "java/lang/RuntimeException"), .declares (Bundle.initS "java/lang/Exception"), .declares (Bundle.initS Bundle.tN), .castable "java/lang/UnsupportedOperationException" "java/lang/UnsupportedOperationException"] : List Cond) := by decide +kernel
theorem tg9_4 : ∀ w ∈ Cond.classLink RX11 263 "java/lang/UnsupportedOperationException" :: Cond.initialized "java/lang/UnsupportedOperationException" :: vx_atS RX11 267 "java/lang/UnsupportedOperationException" ["java/lang/RuntimeException", "java/lang/Exception"], vx_ot w = true := by decide +kernel
