/-! the law's world: the class's and the reference's side by side -/
abbrev ow_LwS := (Nat → Nat) × ow_MS × ow_MS
def lx_A (s : State) (a : Nat) : Prop := s.heap.size ≤ a
def lx_M (D : va_G) (q : Nat → ClassId) (q5 : ow_Q5) (s : State) (vl u w : Nat → Nat) (zc zm : ow_MS) (H : Heap) (locs : List Loc) : Prop := va_P D vwCl (uw (cX vl) q u zc) H ∧ va_P D vwCl (tw mX q5 w zm) H ∧ uw_inj (cX vl) u (lx_A s) ∧ (tw_inj mX w ∧ ∀ h, h ∈ mX_l → lx_A s (w h)) ∧ (∀ g, g ∈ cX_l → ∀ h, h ∈ mX_l → u g ≠ w h) ∧ va_S (lx_A s) s.heap H locs
def lx_G (l : Launch) (s : State) (D : va_G) (q : Nat → ClassId) (q5 : ow_Q5) (sa : Nat → Nat) : Prop := l.stackTraces = false ∧ va_K D vwCl (uw_T q RX7) s ∧ va_K D vwCl (tw_T q5 RX12) s ∧ ow_NM s ∧ cw_Th (lx_A s) sa s ∧ cw_Nc s
theorem uw_adr {X : ow_Tb} {q : Nat → ClassId} {u : Nat → Nat} {z : ow_MS} {k : Nat} {x : Nat × va_E} (h : (uw X q u z)[k]? = some x) : ∃ g, g ∈ X.1 ∧ x.1 = u g := by
  unfold uw at h
  rw [List.getElem?_map] at h
  cases hm : X.1[k]? with
  | none => rw [hm] at h; cases h
  | some g =>
    rw [hm] at h
    obtain rfl := Option.some.inj h
    exact ⟨g, List.mem_of_getElem? hm, rfl⟩
theorem tw_adr {X : ow_Tb} {q : ow_Q5} {u : Nat → Nat} {z : ow_MS} {k : Nat} {x : Nat × va_E} (h : (tw X q u z)[k]? = some x) : ∃ g, g ∈ X.1 ∧ x.1 = u g := by
  unfold tw at h
  rw [List.getElem?_map] at h
  cases hm : X.1[k]? with
  | none => rw [hm] at h; cases h
  | some g =>
    rw [hm] at h
    obtain rfl := Option.some.inj h
    exact ⟨g, List.mem_of_getElem? hm, rfl⟩
section LX
variable {p : Program} {l : Launch} {e : Env} {R : Room} {s : State} {m : MethodId} {args : Array Value} {below : List Frame} {meth : Method} {c : Code} {H : Heap} {locs : List Loc} {cells slots mc ms : Nat} {Q : State → Prop}
variable {cc : ByteArray} {pc : Nat} {ls : Array Slot} {rest : List Value} {D : va_G} {q : Nat → ClassId} {q5 : ow_Q5} {vl u w sa : Nat → Nat} {zc zm zc1 zm1 : ow_MS}
theorem lx_refKept (hM : lx_M D q q5 s vl u w zc zm H locs) {H1 : Heap} (hk : ∀ a : Nat, a < H.size → ¬ tw_A (cX vl) u a → H1[a]? = H[a]?) : va_P D vwCl (tw mX q5 w zm) H1 := by
  refine hM.2.1.kept (fun k x hx => ?_)
  obtain ⟨g, hg, e⟩ := tw_adr hx
  refine hk x.1 (hM.2.1 k x hx).lt (fun ha => ?_)
  obtain ⟨h, hh, e2⟩ := ha
  exact hM.2.2.2.2.1 h hh g hg (e2.symm.trans e)
theorem lx_clsKept (hM : lx_M D q q5 s vl u w zc zm H locs) {H1 : Heap} (hk : ∀ a : Nat, a < H.size → ¬ tw_A mX w a → H1[a]? = H[a]?) : va_P D vwCl (uw (cX vl) q u zc) H1 := by
  refine hM.1.kept (fun k x hx => ?_)
  obtain ⟨g, hg, e⟩ := uw_adr hx
  refine hk x.1 (hM.1 k x hx).lt (fun ha => ?_)
  obtain ⟨h, hh, e2⟩ := ha
  exact hM.2.2.2.2.1 g hg h hh (e.symm.trans e2)
theorem lx_mSub (hM : lx_M D q q5 s vl u w zc zm H locs) {a : Nat} (h : tw_A mX w a) : lx_A s a := by
  obtain ⟨g, hg, rfl⟩ := h
  exact hM.2.2.2.1.2 g hg
theorem lx_wrap {a : Array Value} {st0 : List Value} {r : Int32} (hM : lx_M D q q5 s vl u w zc zm H locs) (hr : vx_Run p l e R s m args below meth c H locs cells slots mc ms (F0 m pc ls st0) rest (va_Qi (fun x (_ : Unit) => x = r) (fun _ t => va_P D vwCl (uw (cX vl) q u zc1) t.heap) (tw_A (cX vl) u) a) (vx_X (fun _ : Unit => False) (fun _ _ _ => True) (tw_A (cX vl) u)) (tw_A (cX vl) u)) (kk : ∀ H1 locs1, lx_M D q q5 s vl u w zc1 zm H1 locs1 → W p l e R s m args below meth c H1 locs1 (cells + mc) (slots + ms) Q (F0 m (pc + 3) ls (.int r :: rest))) : W p l e R s m args below meth c H locs cells slots Q (F0 m pc ls st0) := by
  refine vx_calli hr hM.2.2.2.2.2 (fun _ _ h => uw_sub hM.2.2.1 h) (fun _ h => uw_sub hM.2.2.1 h) (fun _ _ h => uw_sub hM.2.2.1 h) (fun E ce q9 u9 t H1 locs1 ht hvm hp hB hz hk hS hce hcv hcl => hp.elim) (fun r1 _ t H1 locs1 ht _ hw hB _ hk1 hS => ?_)
  rw [hw]
  exact kk H1 locs1 ⟨by rw [← ht]; exact hB, lx_refKept hM hk1, hM.2.2.1, hM.2.2.2.1, hM.2.2.2.2.1, hS⟩
theorem lx_cls {a : Array Value} {st0 : List Value} {r : Int32} (hM : lx_M D q q5 s vl u w zc zm H locs) (hr : va_Run p l e R s m args below meth c H locs cells slots 0 0 (F0 m pc ls st0) rest (va_Qi (fun x (_ : Unit) => x = r) (fun _ t => va_P D vwCl (uw (cX vl) q u zc1) t.heap) (tw_A (cX vl) u) a) (tw_A (cX vl) u)) (kk : ∀ H1 locs1, lx_M D q q5 s vl u w zc1 zm H1 locs1 → W p l e R s m args below meth c H1 locs1 cells slots Q (F0 m (pc + 3) ls (.int r :: rest))) : W p l e R s m args below meth c H locs cells slots Q (F0 m pc ls st0) := by
  refine va_calli hr hM.2.2.2.2.2 (fun _ _ h => uw_sub hM.2.2.1 h) (fun _ h => uw_sub hM.2.2.1 h) (fun r1 _ t H1 locs1 ht _ hw hB _ hk1 hS => ?_)
  rw [hw]
  exact kk H1 locs1 ⟨by rw [← ht]; exact hB, lx_refKept hM hk1, hM.2.2.1, hM.2.2.2.1, hM.2.2.2.2.1, hS⟩
theorem lx_refi {a : Array Value} {st0 : List Value} {r : Int32} (hM : lx_M D q q5 s vl u w zc zm H locs) (hr : va_Run p l e R s m args below meth c H locs cells slots 0 0 (F0 m pc ls st0) rest (va_Qi (fun x (_ : Unit) => x = r) (fun _ t => va_P D vwCl (tw mX q5 w zm1) t.heap) (tw_A mX w) a) (tw_A mX w)) (kk : ∀ H1 locs1, lx_M D q q5 s vl u w zc zm1 H1 locs1 → W p l e R s m args below meth c H1 locs1 cells slots Q (F0 m (pc + 3) ls (.int r :: rest))) : W p l e R s m args below meth c H locs cells slots Q (F0 m pc ls st0) := by
  refine va_calli hr hM.2.2.2.2.2 (fun _ _ h => lx_mSub hM h) (fun _ h => lx_mSub hM h) (fun r1 _ t H1 locs1 ht _ hw hB _ hk1 hS => ?_)
  rw [hw]
  exact kk H1 locs1 ⟨lx_clsKept hM hk1, by rw [← ht]; exact hB, hM.2.2.1, hM.2.2.2.1, hM.2.2.2.2.1, hS⟩
theorem lx_refl {a : Array Value} {st0 : List Value} {r : Int64} (hM : lx_M D q q5 s vl u w zc zm H locs) (hr : va_Run p l e R s m args below meth c H locs cells slots 0 0 (F0 m pc ls st0) rest (va_Ql (fun x (_ : Unit) => x = r) (fun _ t => va_P D vwCl (tw mX q5 w zm1) t.heap) (tw_A mX w) a) (tw_A mX w)) (kk : ∀ H1 locs1, lx_M D q q5 s vl u w zc zm1 H1 locs1 → W p l e R s m args below meth c H1 locs1 cells slots Q (F0 m (pc + 3) ls (.long r :: rest))) : W p l e R s m args below meth c H locs cells slots Q (F0 m pc ls st0) := by
  refine va_calll hr hM.2.2.2.2.2 (fun _ _ h => lx_mSub hM h) (fun _ h => lx_mSub hM h) (fun r1 _ t H1 locs1 ht _ hw hB _ hk1 hS => ?_)
  rw [hw]
  exact kk H1 locs1 ⟨lx_clsKept hM hk1, by rw [← ht]; exact hB, hM.2.2.1, hM.2.2.2.1, hM.2.2.2.2.1, hS⟩
theorem lx_refv {a : Array Value} {st0 : List Value} (hM : lx_M D q q5 s vl u w zc zm H locs) (hr : va_Run p l e R s m args below meth c H locs cells slots 0 0 (F0 m pc ls st0) rest (va_Qv (fun (_ : Unit) => True) (fun _ t => va_P D vwCl (tw mX q5 w zm1) t.heap) (tw_A mX w) a) (tw_A mX w)) (kk : ∀ H1 locs1, lx_M D q q5 s vl u w zc zm1 H1 locs1 → W p l e R s m args below meth c H1 locs1 cells slots Q (F0 m (pc + 3) ls rest)) : W p l e R s m args below meth c H locs cells slots Q (F0 m pc ls st0) := by
  refine va_callv hr hM.2.2.2.2.2 (fun _ _ h => lx_mSub hM h) (fun _ h => lx_mSub hM h) (fun _ t H1 locs1 ht _ _ hB _ hk1 hS => ?_)
  exact kk H1 locs1 ⟨lx_clsKept hM hk1, by rw [← ht]; exact hB, hM.2.2.1, hM.2.2.2.1, hM.2.2.2.2.1, hS⟩
theorem lx_preL (hG : lx_G l s D q q5 sa) (hM : lx_M D q q5 s vl u w zc zm H locs) {As : List Value} : PreS s H (va_Pc As (cw_preL D q vl u sa zc)) As := by
  refine ⟨fun a U g mk q => by obtain ⟨q0, qP, qK, qT, qN⟩ := q; exact ⟨q0, qP, va_K.moved (u := U) (U := U.calling g mk a) (Vm.Alike.refl U.vm) qK, fun t ht => ct_Th1.same (u := U) (U := U.calling g mk a) rfl rfl (qT t ht), fun i j hi hj hn => va_Nc.moved (u := U) (U := U.calling g mk a) (Vm.Alike.refl U.vm) (qN i j hi hj hn)⟩, fun U hU hW => ⟨rfl, by rw [hU]; exact hM.1, va_K.moved hW.alike hG.2.1, fun t ht => ct_Th1.to (hG.2.2.2.2.1 t ht) hM.2.2.2.2.2 hW hU (fun q h => uw_sub hM.2.2.1 h), fun i j hi hj hn => va_Nc.moved hW.alike (hG.2.2.2.2.2 i j hi hj hn)⟩⟩
theorem lx_preC (hG : lx_G l s D q q5 sa) (hM : lx_M D q q5 s vl u w zc zm H locs) {As : List Value} : PreV s H RX11 (u 0) (va_Pc (.ref (u 0) :: As) (cw_pre D q vl u zc)) As :=
  cw_preV (A := lx_A s) (H0 := s.heap) hG.2.1 ⟨hM.1, hM.2.2.2.2.2⟩ (co_X11 (n := 0) (by unfold cw_X11 ci_X11; exact List.mem_singleton.mpr rfl)) (r := (RX11, TX11, 19)) rfl
theorem lx_preM (hG : lx_G l s D q q5 sa) (hM : lx_M D q q5 s vl u w zc zm H locs) {As : List Value} : PreV s H RX13 (w 0) (va_Pc (.ref (w 0) :: As) (mw_pre D q5 w zm)) As :=
  mw_preV (H0 := H) (locs := []) hG.2.2.1 hG.2.2.2.1 ⟨hM.2.1, va_S.rf⟩ mo_0 (r := (RX13, TX13, 120)) rfl
theorem lx_dSub (hM : lx_M D q q5 s vl u w zc zm H locs) {a : Nat} (h : cd_A u H.size a) : lx_A s a := by
  rcases h with ⟨g, hg, rfl⟩ | h
  · exact hM.2.2.1.2 g hg
  · exact Nat.le_trans hM.2.2.2.2.2.1 h
theorem lx_wrapD {a : Array Value} {st0 : List Value} {r : Int32} {vl1 : Nat → Nat} (hM : lx_M D q q5 s vl u w zc zm H locs) (hr : vx_Run p l e R s m args below meth c H locs cells slots mc ms (F0 m pc ls st0) rest (va_Qi (fun x (u1 : Nat → Nat) => x = r ∧ cd_U u u1 H.size) (fun u1 t => va_P D vwCl (uw (cX vl1) q u1 zc1) t.heap) (cd_A u H.size) a) (vx_X (fun _ : Unit => False) (fun _ _ _ => True) (cd_A u H.size)) (cd_A u H.size)) (kk : ∀ (u1 : Nat → Nat) (H1 : Heap) (locs1 : List Loc), lx_M D q q5 s vl1 u1 w zc1 zm H1 locs1 → (∀ h, h ∉ dynL → u1 h = u h) → W p l e R s m args below meth c H1 locs1 (cells + mc) (slots + ms) Q (F0 m (pc + 3) ls (.int r :: rest))) : W p l e R s m args below meth c H locs cells slots Q (F0 m pc ls st0) := by
  refine vx_calli hr hM.2.2.2.2.2 (fun _ _ h => lx_dSub hM h) (fun _ h => lx_dSub hM h) (fun _ _ h => lx_dSub hM h) (fun E ce q9 u9 t H1 locs1 ht hvm hp hB hz hk hS hce hcv hcl => hp.elim) (fun r1 u1 t H1 locs1 ht _ hw hB _ hk1 hS => ?_)
  obtain ⟨rfl, hu1, hu2, hu3⟩ := hw
  have hlt : ∀ h, h ∈ mX_l → w h < H.size := by
    intro h hh
    obtain ⟨k, hk, _⟩ := tw_at mX_ok (show h ∈ mX.1 from hh)
    exact (hM.2.1 k _ (hk q5 w zm)).lt
  refine kk u1 H1 locs1 ⟨by rw [← ht]; exact hB, ?_, ⟨hu1, fun h hh => lx_dSub hM (hu2 h hh)⟩, hM.2.2.2.1, ?_, hS⟩ hu3
  · refine hM.2.1.kept (fun k x hx => ?_)
    obtain ⟨g, hg, e9⟩ := tw_adr hx
    refine hk1 x.1 (hM.2.1 k x hx).lt (fun ha => ?_)
    rcases ha with ⟨h, hh, e2⟩ | ha
    · exact hM.2.2.2.2.1 h hh g hg (e2.symm.trans e9)
    · have := (hM.2.1 k x hx).lt
      omega
  · intro g hg h hh e9
    rcases hu2 g hg with ⟨g2, hg2, e2⟩ | h2
    · exact hM.2.2.2.2.1 g2 hg2 h hh (e2.symm.trans e9)
    · have := hlt h hh
      omega
theorem lx_preLD (hG : lx_G l s D q q5 sa) (hM : lx_M D q q5 s vl u w zc zm H locs) {As : List Value} : PreS s H (va_Pc As (cw_preLD D q vl u sa zc H.size)) As := by
  refine ⟨fun a U g mk q => by obtain ⟨q0, q1, qP, qK, qT, qN⟩ := q; exact ⟨q0, q1, qP, va_K.moved (u := U) (U := U.calling g mk a) (Vm.Alike.refl U.vm) qK, fun t ht => ct_Th1.same (u := U) (U := U.calling g mk a) rfl rfl (qT t ht), fun i j hi hj hn => va_Nc.moved (u := U) (U := U.calling g mk a) (Vm.Alike.refl U.vm) (qN i j hi hj hn)⟩, fun U hU hW => ⟨rfl, by rw [hU], by rw [hU]; exact hM.1, va_K.moved hW.alike hG.2.1, fun t ht => ct_Th1.to (hG.2.2.2.2.1 t ht) hM.2.2.2.2.2 hW hU (fun q h => lx_dSub hM h), fun i j hi hj hn => va_Nc.moved hW.alike (hG.2.2.2.2.2 i j hi hj hn)⟩⟩
end LX
theorem lx_gS {own : String} {idx : Nat} {y : MethodName} {L Ts : List Cond} {cy : Cond} (hL : (cy :: L).all goodWord = true) (hT : ∀ w ∈ cy :: L, w ∈ Ts) (h1 : .methodLink own idx y ∈ Ts) (h2 : .static y ∈ Ts) (h4 : .initialized y.cls ∈ Ts) (g1 : goodWord (.methodLink own idx y) = true) (g2 : goodWord (.static y) = true) (g4 : goodWord (.initialized y.cls) = true) : GoodIn Ts (va_wsS own idx y (cy :: L)) := by
  intro w hw
  unfold va_wsS at hw
  rcases List.mem_append.mp hw with h | h
  · simp only [List.mem_cons, List.not_mem_nil, or_false] at h
    rcases h with h | h | h
    · rw [h]; exact ⟨h1, good_of_word g1⟩
    · rw [h]; exact ⟨h2, good_of_word g2⟩
    · rw [h]; exact ⟨h4, good_of_word g4⟩
  · exact ⟨hT w h, good_of_word (List.all_eq_true.mp hL w h)⟩
theorem lx_gV {own C : String} {idx : Nat} {y : MethodName} {L Ts : List Cond} {cy : Cond} (hL : (cy :: L).all goodWord = true) (hT : ∀ w ∈ cy :: L, w ∈ Ts) (h1 : .methodLink own idx y ∈ Ts) (h2 : .instanceMethod y ∈ Ts) (h3 : .selects C y y ∈ Ts) (h4 : .initialized C ∈ Ts) (g1 : goodWord (.methodLink own idx y) = true) (g2 : goodWord (.instanceMethod y) = true) (g3 : goodWord (.selects C y y) = true) (g4 : goodWord (.initialized C) = true) : GoodIn Ts (wsV own idx C y (cy :: L)) := by
  intro w hw
  unfold wsV at hw
  rcases List.mem_append.mp hw with h | h
  · simp only [List.mem_cons, List.not_mem_nil, or_false] at h
    rcases h with h | h | h | h
    · rw [h]; exact ⟨h1, good_of_word g1⟩
    · rw [h]; exact ⟨h2, good_of_word g2⟩
    · rw [h]; exact ⟨h3, good_of_word g3⟩
    · rw [h]; exact ⟨h4, good_of_word g4⟩
  · exact ⟨hT w h, good_of_word (List.all_eq_true.mp hL w h)⟩
theorem lx_all {cy : Cond} {L : List Cond} (h : L.all goodWord = true) (hc : goodWord cy = true) : (cy :: L).all goodWord = true := by
  rw [List.all_cons, hc, h]
  rfl
theorem lx_mem {cy : Cond} {L Ts : List Cond} (h : ∀ w ∈ L, w ∈ Ts) (hc : cy ∈ Ts) : ∀ w ∈ cy :: L, w ∈ Ts := by
  intro w hw
  rcases List.mem_cons.mp hw with e | e
  · rw [e]; exact hc
  · exact h w e
def wZ : List Cond := [.codeWith yL_feed cL_feed 8 (some .int) [(0, 16, 19, 13)], .methodLink RL 131 yL_feed, .static yL_feed, .initialized RL, .code yX13_feed cX13_feed 8 (some .int), .methodLink RL 136 yX13_feed, .instanceMethod yX13_feed, .selects RX13 yX13_feed yX13_feed, .initialized RX13, .code yX13_thrown cX13_thrown 1 (some .int), .methodLink RL 162 yX13_thrown, .instanceMethod yX13_thrown, .selects RX13 yX13_thrown yX13_thrown, .codeWith yL_end cL_end 3 (some .int) [(0, 5, 8, 19)], .methodLink RL 137 yL_end, .static yL_end, .code yX13_end cX13_end 2 none, .methodLink RL 140 yX13_end, .instanceMethod yX13_end, .selects RX13 yX13_end yX13_end, .codeWith yL_diagram cL_diagram 3 (some .int) [(0, 8, 11, 13)], .methodLink RL 141 yL_diagram, .static yL_diagram, .code yX13_diagram cX13_diagram 2 (some .int), .methodLink RL 144 yX13_diagram, .instanceMethod yX13_diagram, .selects RX13 yX13_diagram yX13_diagram, .codeWith yL_braid cL_braid 4 (some .int) [(0, 9, 12, 19), (0, 9, 15, 13)], .methodLink RL 145 yL_braid, .static yL_braid, .code yX13_braid cX13_braid 8 (some .int), .methodLink RL 148 yX13_braid, .instanceMethod yX13_braid, .selects RX13 yX13_braid yX13_braid, .code yX11_drop cX11_drop 2 (some .boolean), .methodLink RL 149 yX11_drop, .instanceMethod yX11_drop, .selects RX11 yX11_drop yX11_drop, .initialized RX11, .code yX13_drop cX13_drop 3 (some .boolean), .methodLink RL 153 yX13_drop, .instanceMethod yX13_drop, .selects RX13 yX13_drop yX13_drop, .code yX11_dropBraid cX11_dropBraid 2 (some .boolean), .methodLink RL 154 yX11_dropBraid, .instanceMethod yX11_dropBraid, .selects RX11 yX11_dropBraid yX11_dropBraid, .code yX13_dropBraid cX13_dropBraid 3 (some .boolean), .methodLink RL 157 yX13_dropBraid, .instanceMethod yX13_dropBraid, .selects RX13 yX13_dropBraid yX13_dropBraid, .codeWith yL_figure cL_figure 5 (some .int) [(0, 10, 13, 33), (0, 10, 17, 19)], .methodLink RL 158 yL_figure, .static yL_figure, .code yX13_figure cX13_figure 4 (some .int), .methodLink RL 161 yX13_figure, .instanceMethod yX13_figure, .selects RX13 yX13_figure yX13_figure, .codeWith yL_visit cL_visit 6 (some .int) [(0, 12, 15, 33), (0, 12, 19, 19)], .methodLink RL 165 yL_visit, .static yL_visit, .code yX13_visit cX13_visit 4 (some .int), .methodLink RL 168 yX13_visit, .instanceMethod yX13_visit, .selects RX13 yX13_visit yX13_visit, .codeWith yL_linking cL_linking 6 (some .int) [(0, 12, 15, 33), (0, 12, 19, 19)], .methodLink RL 169 yL_linking, .static yL_linking, .code yX13_linking cX13_linking 6 (some .int), .methodLink RL 171 yX13_linking, .instanceMethod yX13_linking, .selects RX13 yX13_linking yX13_linking, .code yX11_alike cX11_alike 3 (some .boolean), .methodLink RL 172 yX11_alike, .instanceMethod yX11_alike, .selects RX11 yX11_alike yX11_alike, .code yX13_alike cX13_alike 3 (some .boolean), .methodLink RL 176 yX13_alike, .instanceMethod yX13_alike, .selects RX13 yX13_alike yX13_alike, .codeWith yL_mirror cL_mirror 4 (some .int) [(0, 9, 12, 33), (0, 9, 15, 13)], .methodLink RL 177 yL_mirror, .static yL_mirror, .code yX13_mirror cX13_mirror 3 (some .int), .methodLink RL 179 yX13_mirror, .instanceMethod yX13_mirror, .selects RX13 yX13_mirror yX13_mirror, .codeWith yL_reverse cL_reverse 5 (some .int) [(0, 10, 13, 33), (0, 10, 17, 13)], .methodLink RL 180 yL_reverse, .static yL_reverse, .code yX13_reverse cX13_reverse 7 (some .int), .methodLink RL 182 yX13_reverse, .instanceMethod yX13_reverse, .selects RX13 yX13_reverse yX13_reverse, .codeWith yL_change cL_change 5 (some .int) [(0, 10, 13, 33), (0, 10, 17, 13)], .methodLink RL 183 yL_change, .static yL_change, .code yX13_change cX13_change 3 (some .int), .methodLink RL 185 yX13_change, .instanceMethod yX13_change, .selects RX13 yX13_change yX13_change, .codeWith yL_smooth cL_smooth 5 (some .int) [(0, 10, 13, 33), (0, 10, 17, 54), (0, 10, 21, 13)], .methodLink RL 186 yL_smooth, .static yL_smooth, .code yX13_smooth cX13_smooth 4 (some .int), .methodLink RL 188 yX13_smooth, .instanceMethod yX13_smooth, .selects RX13 yX13_smooth yX13_smooth, .codeWith yL_apart cL_apart 5 (some .int) [(0, 10, 13, 33), (0, 10, 17, 54), (0, 10, 21, 13)], .methodLink RL 189 yL_apart, .static yL_apart, .code yX13_apart cX13_apart 3 (some .int), .methodLink RL 191 yX13_apart, .instanceMethod yX13_apart, .selects RX13 yX13_apart yX13_apart, .codeWith yL_join cL_join 7 (some .int) [(0, 14, 17, 33), (0, 14, 21, 54), (0, 14, 25, 13)], .methodLink RL 192 yL_join, .static yL_join, .code yX13_join cX13_join 9 (some .int), .methodLink RL 195 yX13_join, .instanceMethod yX13_join, .selects RX13 yX13_join yX13_join, .codeWith yL_moves cL_moves 5 (some .int) [(0, 10, 13, 33), (0, 10, 17, 19)], .methodLink RL 196 yL_moves, .static yL_moves, .code yX13_moves cX13_moves 3 (some .int), .methodLink RL 198 yX13_moves, .instanceMethod yX13_moves, .selects RX13 yX13_moves yX13_moves, .codeWith yL_moved cL_moved 4 (some .int) [(0, 9, 12, 33), (0, 9, 15, 13)], .methodLink RL 199 yL_moved, .static yL_moved, .code yX13_moved cX13_moved 2 (some .int), .methodLink RL 201 yX13_moved, .instanceMethod yX13_moved, .selects RX13 yX13_moved yX13_moved, .codeWith yL_simplify cL_simplify 4 (some .int) [(0, 9, 12, 33), (0, 9, 15, 13)], .methodLink RL 202 yL_simplify, .static yL_simplify, .code yX13_simplify cX13_simplify 5 (some .int), .methodLink RL 204 yX13_simplify, .instanceMethod yX13_simplify, .selects RX13 yX13_simplify yX13_simplify, .codeWith yL_way cL_way 5 (some .int) [(0, 10, 13, 33), (0, 10, 17, 54)], .methodLink RL 205 yL_way, .static yL_way, .code yX13_way cX13_way 7 (some .int), .methodLink RL 207 yX13_way, .instanceMethod yX13_way, .selects RX13 yX13_way yX13_way, .codeWith yL_summands cL_summands 4 (some .int) [(0, 9, 12, 33)], .methodLink RL 208 yL_summands, .static yL_summands, .code yX13_summands cX13_summands 7 (some .int), .methodLink RL 210 yX13_summands, .instanceMethod yX13_summands, .selects RX13 yX13_summands yX13_summands, .codeWith yL_summand cL_summand 4 (some .int) [(0, 9, 12, 33), (0, 9, 15, 13)], .methodLink RL 211 yL_summand, .static yL_summand, .code yX13_summand cX13_summand 2 (some .int), .methodLink RL 213 yX13_summand, .instanceMethod yX13_summand, .selects RX13 yX13_summand yX13_summand, .codeWith yL_conway cL_conway 5 (some .int) [(0, 10, 13, 33)], .methodLink RL 214 yL_conway, .static yL_conway, .code yX13_conway cX13_conway 4 (some .int), .methodLink RL 216 yX13_conway, .instanceMethod yX13_conway, .selects RX13 yX13_conway yX13_conway, .codeWith yL_jones cL_jones 5 (some .int) [(0, 10, 13, 33)], .methodLink RL 217 yL_jones, .static yL_jones, .code yX13_jones cX13_jones 4 (some .int), .methodLink RL 219 yX13_jones, .instanceMethod yX13_jones, .selects RX13 yX13_jones yX13_jones, .codeWith yL_signature cL_signature 4 (some .int) [(0, 9, 12, 33)], .methodLink RL 220 yL_signature, .static yL_signature, .code yX13_signature cX13_signature 6 (some .int), .methodLink RL 222 yX13_signature, .instanceMethod yX13_signature, .selects RX13 yX13_signature yX13_signature, .codeWith yL_cover cL_cover 5 (some .int) [(0, 10, 13, 33)], .methodLink RL 223 yL_cover, .static yL_cover, .code yX13_cover cX13_cover 3 (some .int), .methodLink RL 225 yX13_cover, .instanceMethod yX13_cover, .selects RX13 yX13_cover yX13_cover, .codeWith yL_colours cL_colours 5 (some .int) [(0, 9, 12, 33), (0, 9, 16, 19)], .methodLink RL 226 yL_colours, .static yL_colours, .code yX13_colours cX13_colours 6 (some .long), .methodLink RL 228 yX13_colours, .instanceMethod yX13_colours, .selects RX13 yX13_colours yX13_colours, .codeWith yL_maps cL_maps 5 (some .int) [(0, 10, 13, 33), (0, 10, 17, 19), (0, 10, 21, 54)], .methodLink RL 229 yL_maps, .static yL_maps, .code yX13_maps cX13_maps 8 (some .int), .methodLink RL 231 yX13_maps, .instanceMethod yX13_maps, .selects RX13 yX13_maps yX13_maps, .codeWith yL_chain cL_chain 5 (some .int) [(0, 10, 13, 33), (0, 10, 17, 19), (0, 10, 21, 54)], .methodLink RL 232 yL_chain, .static yL_chain, .code yX13_chain cX13_chain 8 (some .int), .methodLink RL 234 yX13_chain, .instanceMethod yX13_chain, .selects RX13 yX13_chain yX13_chain, .code yX11_rank cX11_rank 3 (some .int), .methodLink RL 235 yX11_rank, .instanceMethod yX11_rank, .selects RX11 yX11_rank yX11_rank, .code yX13_rank cX13_rank 5 (some .int), .methodLink RL 238 yX13_rank, .instanceMethod yX13_rank, .selects RX13 yX13_rank yX13_rank, .codeWith yL_closure cL_closure 4 (some .int) [(0, 9, 12, 33), (0, 9, 15, 54), (0, 9, 18, 13)], .methodLink RL 239 yL_closure, .static yL_closure, .code yX13_closure cX13_closure 2 (some .int), .methodLink RL 241 yX13_closure, .instanceMethod yX13_closure, .selects RX13 yX13_closure yX13_closure, .codeWith yL_product cL_product 5 (some .int) [(0, 10, 13, 33), (0, 10, 17, 19), (0, 10, 21, 54), (0, 10, 25, 13)], .methodLink RL 242 yL_product, .static yL_product, .code yX13_product cX13_product 5 (some .int), .methodLink RL 244 yX13_product, .instanceMethod yX13_product, .selects RX13 yX13_product yX13_product, .codeWith yL_inverse cL_inverse 4 (some .int) [(0, 9, 12, 33), (0, 9, 15, 13)], .methodLink RL 245 yL_inverse, .static yL_inverse, .code yX13_inverse cX13_inverse 4 (some .int), .methodLink RL 247 yX13_inverse, .instanceMethod yX13_inverse, .selects RX13 yX13_inverse yX13_inverse, .codeWith yL_normal cL_normal 5 (some .int) [(0, 10, 13, 33), (0, 10, 17, 19)], .methodLink RL 248 yL_normal, .static yL_normal, .code yX13_normal cX13_normal 3 (some .int), .methodLink RL 250 yX13_normal, .instanceMethod yX13_normal, .selects RX13 yX13_normal yX13_normal, .codeWith yL_factor cL_factor 6 (some .int) [(0, 12, 15, 33)], .methodLink RL 251 yL_factor, .static yL_factor, .code yX13_factor cX13_factor 4 (some .int), .methodLink RL 253 yX13_factor, .instanceMethod yX13_factor, .selects RX13 yX13_factor yX13_factor, .code yX11_equal cX11_equal 3 (some .boolean), .methodLink RL 254 yX11_equal, .instanceMethod yX11_equal, .selects RX11 yX11_equal yX11_equal, .code yX13_equal cX13_equal 3 (some .boolean), .methodLink RL 257 yX13_equal, .instanceMethod yX13_equal, .selects RX13 yX13_equal yX13_equal, .codeWith yL_summit cL_summit 4 (some .int) [(0, 9, 12, 33), (0, 9, 15, 54)], .methodLink RL 258 yL_summit, .static yL_summit, .code yX13_summit cX13_summit 2 (some .int), .methodLink RL 260 yX13_summit, .instanceMethod yX13_summit, .selects RX13 yX13_summit yX13_summit, .codeWith yL_conjugate cL_conjugate 5 (some .int) [(0, 10, 13, 33), (0, 10, 17, 19), (0, 10, 21, 54)], .methodLink RL 261 yL_conjugate, .static yL_conjugate, .code yX13_conjugate cX13_conjugate 4 (some .int), .methodLink RL 263 yX13_conjugate, .instanceMethod yX13_conjugate, .selects RX13 yX13_conjugate yX13_conjugate, .codeWith yL_two cL_two 6 (some .int) [(0, 12, 15, 33), (0, 12, 19, 54)], .methodLink RL 264 yL_two, .static yL_two, .code yX13_two cX13_two 5 (some .int), .methodLink RL 266 yX13_two, .instanceMethod yX13_two, .selects RX13 yX13_two yX13_two]
theorem zq_0 : (Cond.codeWith yL_feed cL_feed 8 (some .int) [(0, 16, 19, 13)]) ∈ wZ := List.mem_of_getElem? (i := 0) rfl
theorem zq_1 : (Cond.methodLink RL 131 yL_feed) ∈ wZ := List.mem_of_getElem? (i := 1) rfl
theorem zq_2 : (Cond.static yL_feed) ∈ wZ := List.mem_of_getElem? (i := 2) rfl
theorem zq_3 : (Cond.initialized RL) ∈ wZ := List.mem_of_getElem? (i := 3) rfl
theorem zq_4 : (Cond.code yX13_feed cX13_feed 8 (some .int)) ∈ wZ := List.mem_of_getElem? (i := 4) rfl
theorem zq_5 : (Cond.methodLink RL 136 yX13_feed) ∈ wZ := List.mem_of_getElem? (i := 5) rfl
theorem zq_6 : (Cond.instanceMethod yX13_feed) ∈ wZ := List.mem_of_getElem? (i := 6) rfl
theorem zq_7 : (Cond.selects RX13 yX13_feed yX13_feed) ∈ wZ := List.mem_of_getElem? (i := 7) rfl
theorem zq_8 : (Cond.initialized RX13) ∈ wZ := List.mem_of_getElem? (i := 8) rfl
theorem zq_9 : (Cond.code yX13_thrown cX13_thrown 1 (some .int)) ∈ wZ := List.mem_of_getElem? (i := 9) rfl
theorem zq_10 : (Cond.methodLink RL 162 yX13_thrown) ∈ wZ := List.mem_of_getElem? (i := 10) rfl
theorem zq_11 : (Cond.instanceMethod yX13_thrown) ∈ wZ := List.mem_of_getElem? (i := 11) rfl
theorem zq_12 : (Cond.selects RX13 yX13_thrown yX13_thrown) ∈ wZ := List.mem_of_getElem? (i := 12) rfl
theorem zq_13 : (Cond.codeWith yL_end cL_end 3 (some .int) [(0, 5, 8, 19)]) ∈ wZ := List.mem_of_getElem? (i := 13) rfl
theorem zq_14 : (Cond.methodLink RL 137 yL_end) ∈ wZ := List.mem_of_getElem? (i := 14) rfl
theorem zq_15 : (Cond.static yL_end) ∈ wZ := List.mem_of_getElem? (i := 15) rfl
theorem zq_16 : (Cond.code yX13_end cX13_end 2 none) ∈ wZ := List.mem_of_getElem? (i := 16) rfl
theorem zq_17 : (Cond.methodLink RL 140 yX13_end) ∈ wZ := List.mem_of_getElem? (i := 17) rfl
theorem zq_18 : (Cond.instanceMethod yX13_end) ∈ wZ := List.mem_of_getElem? (i := 18) rfl
theorem zq_19 : (Cond.selects RX13 yX13_end yX13_end) ∈ wZ := List.mem_of_getElem? (i := 19) rfl
theorem zq_20 : (Cond.codeWith yL_diagram cL_diagram 3 (some .int) [(0, 8, 11, 13)]) ∈ wZ := List.mem_of_getElem? (i := 20) rfl
theorem zq_21 : (Cond.methodLink RL 141 yL_diagram) ∈ wZ := List.mem_of_getElem? (i := 21) rfl
theorem zq_22 : (Cond.static yL_diagram) ∈ wZ := List.mem_of_getElem? (i := 22) rfl
theorem zq_23 : (Cond.code yX13_diagram cX13_diagram 2 (some .int)) ∈ wZ := List.mem_of_getElem? (i := 23) rfl
theorem zq_24 : (Cond.methodLink RL 144 yX13_diagram) ∈ wZ := List.mem_of_getElem? (i := 24) rfl
theorem zq_25 : (Cond.instanceMethod yX13_diagram) ∈ wZ := List.mem_of_getElem? (i := 25) rfl
theorem zq_26 : (Cond.selects RX13 yX13_diagram yX13_diagram) ∈ wZ := List.mem_of_getElem? (i := 26) rfl
theorem zq_27 : (Cond.codeWith yL_braid cL_braid 4 (some .int) [(0, 9, 12, 19), (0, 9, 15, 13)]) ∈ wZ := List.mem_of_getElem? (i := 27) rfl
theorem zq_28 : (Cond.methodLink RL 145 yL_braid) ∈ wZ := List.mem_of_getElem? (i := 28) rfl
theorem zq_29 : (Cond.static yL_braid) ∈ wZ := List.mem_of_getElem? (i := 29) rfl
theorem zq_30 : (Cond.code yX13_braid cX13_braid 8 (some .int)) ∈ wZ := List.mem_of_getElem? (i := 30) rfl
theorem zq_31 : (Cond.methodLink RL 148 yX13_braid) ∈ wZ := List.mem_of_getElem? (i := 31) rfl
theorem zq_32 : (Cond.instanceMethod yX13_braid) ∈ wZ := List.mem_of_getElem? (i := 32) rfl
theorem zq_33 : (Cond.selects RX13 yX13_braid yX13_braid) ∈ wZ := List.mem_of_getElem? (i := 33) rfl
theorem zq_34 : (Cond.code yX11_drop cX11_drop 2 (some .boolean)) ∈ wZ := List.mem_of_getElem? (i := 34) rfl
theorem zq_35 : (Cond.methodLink RL 149 yX11_drop) ∈ wZ := List.mem_of_getElem? (i := 35) rfl
theorem zq_36 : (Cond.instanceMethod yX11_drop) ∈ wZ := List.mem_of_getElem? (i := 36) rfl
theorem zq_37 : (Cond.selects RX11 yX11_drop yX11_drop) ∈ wZ := List.mem_of_getElem? (i := 37) rfl
theorem zq_38 : (Cond.initialized RX11) ∈ wZ := List.mem_of_getElem? (i := 38) rfl
theorem zq_39 : (Cond.code yX13_drop cX13_drop 3 (some .boolean)) ∈ wZ := List.mem_of_getElem? (i := 39) rfl
theorem zq_40 : (Cond.methodLink RL 153 yX13_drop) ∈ wZ := List.mem_of_getElem? (i := 40) rfl
theorem zq_41 : (Cond.instanceMethod yX13_drop) ∈ wZ := List.mem_of_getElem? (i := 41) rfl
theorem zq_42 : (Cond.selects RX13 yX13_drop yX13_drop) ∈ wZ := List.mem_of_getElem? (i := 42) rfl
theorem zq_43 : (Cond.code yX11_dropBraid cX11_dropBraid 2 (some .boolean)) ∈ wZ := List.mem_of_getElem? (i := 43) rfl
theorem zq_44 : (Cond.methodLink RL 154 yX11_dropBraid) ∈ wZ := List.mem_of_getElem? (i := 44) rfl
theorem zq_45 : (Cond.instanceMethod yX11_dropBraid) ∈ wZ := List.mem_of_getElem? (i := 45) rfl
theorem zq_46 : (Cond.selects RX11 yX11_dropBraid yX11_dropBraid) ∈ wZ := List.mem_of_getElem? (i := 46) rfl
theorem zq_47 : (Cond.code yX13_dropBraid cX13_dropBraid 3 (some .boolean)) ∈ wZ := List.mem_of_getElem? (i := 47) rfl
theorem zq_48 : (Cond.methodLink RL 157 yX13_dropBraid) ∈ wZ := List.mem_of_getElem? (i := 48) rfl
theorem zq_49 : (Cond.instanceMethod yX13_dropBraid) ∈ wZ := List.mem_of_getElem? (i := 49) rfl
theorem zq_50 : (Cond.selects RX13 yX13_dropBraid yX13_dropBraid) ∈ wZ := List.mem_of_getElem? (i := 50) rfl
theorem zq_51 : (Cond.codeWith yL_figure cL_figure 5 (some .int) [(0, 10, 13, 33), (0, 10, 17, 19)]) ∈ wZ := List.mem_of_getElem? (i := 51) rfl
theorem zq_52 : (Cond.methodLink RL 158 yL_figure) ∈ wZ := List.mem_of_getElem? (i := 52) rfl
theorem zq_53 : (Cond.static yL_figure) ∈ wZ := List.mem_of_getElem? (i := 53) rfl
theorem zq_54 : (Cond.code yX13_figure cX13_figure 4 (some .int)) ∈ wZ := List.mem_of_getElem? (i := 54) rfl
theorem zq_55 : (Cond.methodLink RL 161 yX13_figure) ∈ wZ := List.mem_of_getElem? (i := 55) rfl
theorem zq_56 : (Cond.instanceMethod yX13_figure) ∈ wZ := List.mem_of_getElem? (i := 56) rfl
theorem zq_57 : (Cond.selects RX13 yX13_figure yX13_figure) ∈ wZ := List.mem_of_getElem? (i := 57) rfl
theorem zq_58 : (Cond.codeWith yL_visit cL_visit 6 (some .int) [(0, 12, 15, 33), (0, 12, 19, 19)]) ∈ wZ := List.mem_of_getElem? (i := 58) rfl
theorem zq_59 : (Cond.methodLink RL 165 yL_visit) ∈ wZ := List.mem_of_getElem? (i := 59) rfl
theorem zq_60 : (Cond.static yL_visit) ∈ wZ := List.mem_of_getElem? (i := 60) rfl
theorem zq_61 : (Cond.code yX13_visit cX13_visit 4 (some .int)) ∈ wZ := List.mem_of_getElem? (i := 61) rfl
theorem zq_62 : (Cond.methodLink RL 168 yX13_visit) ∈ wZ := List.mem_of_getElem? (i := 62) rfl
theorem zq_63 : (Cond.instanceMethod yX13_visit) ∈ wZ := List.mem_of_getElem? (i := 63) rfl
theorem zq_64 : (Cond.selects RX13 yX13_visit yX13_visit) ∈ wZ := List.mem_of_getElem? (i := 64) rfl
theorem zq_65 : (Cond.codeWith yL_linking cL_linking 6 (some .int) [(0, 12, 15, 33), (0, 12, 19, 19)]) ∈ wZ := List.mem_of_getElem? (i := 65) rfl
theorem zq_66 : (Cond.methodLink RL 169 yL_linking) ∈ wZ := List.mem_of_getElem? (i := 66) rfl
theorem zq_67 : (Cond.static yL_linking) ∈ wZ := List.mem_of_getElem? (i := 67) rfl
theorem zq_68 : (Cond.code yX13_linking cX13_linking 6 (some .int)) ∈ wZ := List.mem_of_getElem? (i := 68) rfl
theorem zq_69 : (Cond.methodLink RL 171 yX13_linking) ∈ wZ := List.mem_of_getElem? (i := 69) rfl
theorem zq_70 : (Cond.instanceMethod yX13_linking) ∈ wZ := List.mem_of_getElem? (i := 70) rfl
theorem zq_71 : (Cond.selects RX13 yX13_linking yX13_linking) ∈ wZ := List.mem_of_getElem? (i := 71) rfl
theorem zq_72 : (Cond.code yX11_alike cX11_alike 3 (some .boolean)) ∈ wZ := List.mem_of_getElem? (i := 72) rfl
theorem zq_73 : (Cond.methodLink RL 172 yX11_alike) ∈ wZ := List.mem_of_getElem? (i := 73) rfl
theorem zq_74 : (Cond.instanceMethod yX11_alike) ∈ wZ := List.mem_of_getElem? (i := 74) rfl
theorem zq_75 : (Cond.selects RX11 yX11_alike yX11_alike) ∈ wZ := List.mem_of_getElem? (i := 75) rfl
theorem zq_76 : (Cond.code yX13_alike cX13_alike 3 (some .boolean)) ∈ wZ := List.mem_of_getElem? (i := 76) rfl
theorem zq_77 : (Cond.methodLink RL 176 yX13_alike) ∈ wZ := List.mem_of_getElem? (i := 77) rfl
theorem zq_78 : (Cond.instanceMethod yX13_alike) ∈ wZ := List.mem_of_getElem? (i := 78) rfl
theorem zq_79 : (Cond.selects RX13 yX13_alike yX13_alike) ∈ wZ := List.mem_of_getElem? (i := 79) rfl
theorem zq_80 : (Cond.codeWith yL_mirror cL_mirror 4 (some .int) [(0, 9, 12, 33), (0, 9, 15, 13)]) ∈ wZ := List.mem_of_getElem? (i := 80) rfl
theorem zq_81 : (Cond.methodLink RL 177 yL_mirror) ∈ wZ := List.mem_of_getElem? (i := 81) rfl
theorem zq_82 : (Cond.static yL_mirror) ∈ wZ := List.mem_of_getElem? (i := 82) rfl
theorem zq_83 : (Cond.code yX13_mirror cX13_mirror 3 (some .int)) ∈ wZ := List.mem_of_getElem? (i := 83) rfl
theorem zq_84 : (Cond.methodLink RL 179 yX13_mirror) ∈ wZ := List.mem_of_getElem? (i := 84) rfl
theorem zq_85 : (Cond.instanceMethod yX13_mirror) ∈ wZ := List.mem_of_getElem? (i := 85) rfl
theorem zq_86 : (Cond.selects RX13 yX13_mirror yX13_mirror) ∈ wZ := List.mem_of_getElem? (i := 86) rfl
theorem zq_87 : (Cond.codeWith yL_reverse cL_reverse 5 (some .int) [(0, 10, 13, 33), (0, 10, 17, 13)]) ∈ wZ := List.mem_of_getElem? (i := 87) rfl
theorem zq_88 : (Cond.methodLink RL 180 yL_reverse) ∈ wZ := List.mem_of_getElem? (i := 88) rfl
theorem zq_89 : (Cond.static yL_reverse) ∈ wZ := List.mem_of_getElem? (i := 89) rfl
theorem zq_90 : (Cond.code yX13_reverse cX13_reverse 7 (some .int)) ∈ wZ := List.mem_of_getElem? (i := 90) rfl
theorem zq_91 : (Cond.methodLink RL 182 yX13_reverse) ∈ wZ := List.mem_of_getElem? (i := 91) rfl
theorem zq_92 : (Cond.instanceMethod yX13_reverse) ∈ wZ := List.mem_of_getElem? (i := 92) rfl
theorem zq_93 : (Cond.selects RX13 yX13_reverse yX13_reverse) ∈ wZ := List.mem_of_getElem? (i := 93) rfl
theorem zq_94 : (Cond.codeWith yL_change cL_change 5 (some .int) [(0, 10, 13, 33), (0, 10, 17, 13)]) ∈ wZ := List.mem_of_getElem? (i := 94) rfl
theorem zq_95 : (Cond.methodLink RL 183 yL_change) ∈ wZ := List.mem_of_getElem? (i := 95) rfl
theorem zq_96 : (Cond.static yL_change) ∈ wZ := List.mem_of_getElem? (i := 96) rfl
theorem zq_97 : (Cond.code yX13_change cX13_change 3 (some .int)) ∈ wZ := List.mem_of_getElem? (i := 97) rfl
theorem zq_98 : (Cond.methodLink RL 185 yX13_change) ∈ wZ := List.mem_of_getElem? (i := 98) rfl
theorem zq_99 : (Cond.instanceMethod yX13_change) ∈ wZ := List.mem_of_getElem? (i := 99) rfl
theorem zq_100 : (Cond.selects RX13 yX13_change yX13_change) ∈ wZ := List.mem_of_getElem? (i := 100) rfl
theorem zq_101 : (Cond.codeWith yL_smooth cL_smooth 5 (some .int) [(0, 10, 13, 33), (0, 10, 17, 54), (0, 10, 21, 13)]) ∈ wZ := List.mem_of_getElem? (i := 101) rfl
theorem zq_102 : (Cond.methodLink RL 186 yL_smooth) ∈ wZ := List.mem_of_getElem? (i := 102) rfl
theorem zq_103 : (Cond.static yL_smooth) ∈ wZ := List.mem_of_getElem? (i := 103) rfl
theorem zq_104 : (Cond.code yX13_smooth cX13_smooth 4 (some .int)) ∈ wZ := List.mem_of_getElem? (i := 104) rfl
theorem zq_105 : (Cond.methodLink RL 188 yX13_smooth) ∈ wZ := List.mem_of_getElem? (i := 105) rfl
theorem zq_106 : (Cond.instanceMethod yX13_smooth) ∈ wZ := List.mem_of_getElem? (i := 106) rfl
theorem zq_107 : (Cond.selects RX13 yX13_smooth yX13_smooth) ∈ wZ := List.mem_of_getElem? (i := 107) rfl
theorem zq_108 : (Cond.codeWith yL_apart cL_apart 5 (some .int) [(0, 10, 13, 33), (0, 10, 17, 54), (0, 10, 21, 13)]) ∈ wZ := List.mem_of_getElem? (i := 108) rfl
theorem zq_109 : (Cond.methodLink RL 189 yL_apart) ∈ wZ := List.mem_of_getElem? (i := 109) rfl
theorem zq_110 : (Cond.static yL_apart) ∈ wZ := List.mem_of_getElem? (i := 110) rfl
theorem zq_111 : (Cond.code yX13_apart cX13_apart 3 (some .int)) ∈ wZ := List.mem_of_getElem? (i := 111) rfl
theorem zq_112 : (Cond.methodLink RL 191 yX13_apart) ∈ wZ := List.mem_of_getElem? (i := 112) rfl
theorem zq_113 : (Cond.instanceMethod yX13_apart) ∈ wZ := List.mem_of_getElem? (i := 113) rfl
theorem zq_114 : (Cond.selects RX13 yX13_apart yX13_apart) ∈ wZ := List.mem_of_getElem? (i := 114) rfl
theorem zq_115 : (Cond.codeWith yL_join cL_join 7 (some .int) [(0, 14, 17, 33), (0, 14, 21, 54), (0, 14, 25, 13)]) ∈ wZ := List.mem_of_getElem? (i := 115) rfl
theorem zq_116 : (Cond.methodLink RL 192 yL_join) ∈ wZ := List.mem_of_getElem? (i := 116) rfl
theorem zq_117 : (Cond.static yL_join) ∈ wZ := List.mem_of_getElem? (i := 117) rfl
theorem zq_118 : (Cond.code yX13_join cX13_join 9 (some .int)) ∈ wZ := List.mem_of_getElem? (i := 118) rfl
theorem zq_119 : (Cond.methodLink RL 195 yX13_join) ∈ wZ := List.mem_of_getElem? (i := 119) rfl
theorem zq_120 : (Cond.instanceMethod yX13_join) ∈ wZ := List.mem_of_getElem? (i := 120) rfl
theorem zq_121 : (Cond.selects RX13 yX13_join yX13_join) ∈ wZ := List.mem_of_getElem? (i := 121) rfl
theorem zq_122 : (Cond.codeWith yL_moves cL_moves 5 (some .int) [(0, 10, 13, 33), (0, 10, 17, 19)]) ∈ wZ := List.mem_of_getElem? (i := 122) rfl
theorem zq_123 : (Cond.methodLink RL 196 yL_moves) ∈ wZ := List.mem_of_getElem? (i := 123) rfl
theorem zq_124 : (Cond.static yL_moves) ∈ wZ := List.mem_of_getElem? (i := 124) rfl
theorem zq_125 : (Cond.code yX13_moves cX13_moves 3 (some .int)) ∈ wZ := List.mem_of_getElem? (i := 125) rfl
theorem zq_126 : (Cond.methodLink RL 198 yX13_moves) ∈ wZ := List.mem_of_getElem? (i := 126) rfl
theorem zq_127 : (Cond.instanceMethod yX13_moves) ∈ wZ := List.mem_of_getElem? (i := 127) rfl
theorem zq_128 : (Cond.selects RX13 yX13_moves yX13_moves) ∈ wZ := List.mem_of_getElem? (i := 128) rfl
theorem zq_129 : (Cond.codeWith yL_moved cL_moved 4 (some .int) [(0, 9, 12, 33), (0, 9, 15, 13)]) ∈ wZ := List.mem_of_getElem? (i := 129) rfl
theorem zq_130 : (Cond.methodLink RL 199 yL_moved) ∈ wZ := List.mem_of_getElem? (i := 130) rfl
theorem zq_131 : (Cond.static yL_moved) ∈ wZ := List.mem_of_getElem? (i := 131) rfl
theorem zq_132 : (Cond.code yX13_moved cX13_moved 2 (some .int)) ∈ wZ := List.mem_of_getElem? (i := 132) rfl
theorem zq_133 : (Cond.methodLink RL 201 yX13_moved) ∈ wZ := List.mem_of_getElem? (i := 133) rfl
theorem zq_134 : (Cond.instanceMethod yX13_moved) ∈ wZ := List.mem_of_getElem? (i := 134) rfl
theorem zq_135 : (Cond.selects RX13 yX13_moved yX13_moved) ∈ wZ := List.mem_of_getElem? (i := 135) rfl
theorem zq_136 : (Cond.codeWith yL_simplify cL_simplify 4 (some .int) [(0, 9, 12, 33), (0, 9, 15, 13)]) ∈ wZ := List.mem_of_getElem? (i := 136) rfl
theorem zq_137 : (Cond.methodLink RL 202 yL_simplify) ∈ wZ := List.mem_of_getElem? (i := 137) rfl
theorem zq_138 : (Cond.static yL_simplify) ∈ wZ := List.mem_of_getElem? (i := 138) rfl
theorem zq_139 : (Cond.code yX13_simplify cX13_simplify 5 (some .int)) ∈ wZ := List.mem_of_getElem? (i := 139) rfl
theorem zq_140 : (Cond.methodLink RL 204 yX13_simplify) ∈ wZ := List.mem_of_getElem? (i := 140) rfl
theorem zq_141 : (Cond.instanceMethod yX13_simplify) ∈ wZ := List.mem_of_getElem? (i := 141) rfl
theorem zq_142 : (Cond.selects RX13 yX13_simplify yX13_simplify) ∈ wZ := List.mem_of_getElem? (i := 142) rfl
theorem zq_143 : (Cond.codeWith yL_way cL_way 5 (some .int) [(0, 10, 13, 33), (0, 10, 17, 54)]) ∈ wZ := List.mem_of_getElem? (i := 143) rfl
theorem zq_144 : (Cond.methodLink RL 205 yL_way) ∈ wZ := List.mem_of_getElem? (i := 144) rfl
theorem zq_145 : (Cond.static yL_way) ∈ wZ := List.mem_of_getElem? (i := 145) rfl
theorem zq_146 : (Cond.code yX13_way cX13_way 7 (some .int)) ∈ wZ := List.mem_of_getElem? (i := 146) rfl
theorem zq_147 : (Cond.methodLink RL 207 yX13_way) ∈ wZ := List.mem_of_getElem? (i := 147) rfl
theorem zq_148 : (Cond.instanceMethod yX13_way) ∈ wZ := List.mem_of_getElem? (i := 148) rfl
theorem zq_149 : (Cond.selects RX13 yX13_way yX13_way) ∈ wZ := List.mem_of_getElem? (i := 149) rfl
theorem zq_150 : (Cond.codeWith yL_summands cL_summands 4 (some .int) [(0, 9, 12, 33)]) ∈ wZ := List.mem_of_getElem? (i := 150) rfl
theorem zq_151 : (Cond.methodLink RL 208 yL_summands) ∈ wZ := List.mem_of_getElem? (i := 151) rfl
theorem zq_152 : (Cond.static yL_summands) ∈ wZ := List.mem_of_getElem? (i := 152) rfl
theorem zq_153 : (Cond.code yX13_summands cX13_summands 7 (some .int)) ∈ wZ := List.mem_of_getElem? (i := 153) rfl
theorem zq_154 : (Cond.methodLink RL 210 yX13_summands) ∈ wZ := List.mem_of_getElem? (i := 154) rfl
theorem zq_155 : (Cond.instanceMethod yX13_summands) ∈ wZ := List.mem_of_getElem? (i := 155) rfl
theorem zq_156 : (Cond.selects RX13 yX13_summands yX13_summands) ∈ wZ := List.mem_of_getElem? (i := 156) rfl
theorem zq_157 : (Cond.codeWith yL_summand cL_summand 4 (some .int) [(0, 9, 12, 33), (0, 9, 15, 13)]) ∈ wZ := List.mem_of_getElem? (i := 157) rfl
theorem zq_158 : (Cond.methodLink RL 211 yL_summand) ∈ wZ := List.mem_of_getElem? (i := 158) rfl
theorem zq_159 : (Cond.static yL_summand) ∈ wZ := List.mem_of_getElem? (i := 159) rfl
theorem zq_160 : (Cond.code yX13_summand cX13_summand 2 (some .int)) ∈ wZ := List.mem_of_getElem? (i := 160) rfl
theorem zq_161 : (Cond.methodLink RL 213 yX13_summand) ∈ wZ := List.mem_of_getElem? (i := 161) rfl
theorem zq_162 : (Cond.instanceMethod yX13_summand) ∈ wZ := List.mem_of_getElem? (i := 162) rfl
theorem zq_163 : (Cond.selects RX13 yX13_summand yX13_summand) ∈ wZ := List.mem_of_getElem? (i := 163) rfl
theorem zq_164 : (Cond.codeWith yL_conway cL_conway 5 (some .int) [(0, 10, 13, 33)]) ∈ wZ := List.mem_of_getElem? (i := 164) rfl
theorem zq_165 : (Cond.methodLink RL 214 yL_conway) ∈ wZ := List.mem_of_getElem? (i := 165) rfl
theorem zq_166 : (Cond.static yL_conway) ∈ wZ := List.mem_of_getElem? (i := 166) rfl
theorem zq_167 : (Cond.code yX13_conway cX13_conway 4 (some .int)) ∈ wZ := List.mem_of_getElem? (i := 167) rfl
theorem zq_168 : (Cond.methodLink RL 216 yX13_conway) ∈ wZ := List.mem_of_getElem? (i := 168) rfl
theorem zq_169 : (Cond.instanceMethod yX13_conway) ∈ wZ := List.mem_of_getElem? (i := 169) rfl
theorem zq_170 : (Cond.selects RX13 yX13_conway yX13_conway) ∈ wZ := List.mem_of_getElem? (i := 170) rfl
theorem zq_171 : (Cond.codeWith yL_jones cL_jones 5 (some .int) [(0, 10, 13, 33)]) ∈ wZ := List.mem_of_getElem? (i := 171) rfl
theorem zq_172 : (Cond.methodLink RL 217 yL_jones) ∈ wZ := List.mem_of_getElem? (i := 172) rfl
theorem zq_173 : (Cond.static yL_jones) ∈ wZ := List.mem_of_getElem? (i := 173) rfl
theorem zq_174 : (Cond.code yX13_jones cX13_jones 4 (some .int)) ∈ wZ := List.mem_of_getElem? (i := 174) rfl
theorem zq_175 : (Cond.methodLink RL 219 yX13_jones) ∈ wZ := List.mem_of_getElem? (i := 175) rfl
theorem zq_176 : (Cond.instanceMethod yX13_jones) ∈ wZ := List.mem_of_getElem? (i := 176) rfl
theorem zq_177 : (Cond.selects RX13 yX13_jones yX13_jones) ∈ wZ := List.mem_of_getElem? (i := 177) rfl
theorem zq_178 : (Cond.codeWith yL_signature cL_signature 4 (some .int) [(0, 9, 12, 33)]) ∈ wZ := List.mem_of_getElem? (i := 178) rfl
theorem zq_179 : (Cond.methodLink RL 220 yL_signature) ∈ wZ := List.mem_of_getElem? (i := 179) rfl
theorem zq_180 : (Cond.static yL_signature) ∈ wZ := List.mem_of_getElem? (i := 180) rfl
theorem zq_181 : (Cond.code yX13_signature cX13_signature 6 (some .int)) ∈ wZ := List.mem_of_getElem? (i := 181) rfl
theorem zq_182 : (Cond.methodLink RL 222 yX13_signature) ∈ wZ := List.mem_of_getElem? (i := 182) rfl
theorem zq_183 : (Cond.instanceMethod yX13_signature) ∈ wZ := List.mem_of_getElem? (i := 183) rfl
theorem zq_184 : (Cond.selects RX13 yX13_signature yX13_signature) ∈ wZ := List.mem_of_getElem? (i := 184) rfl
theorem zq_185 : (Cond.codeWith yL_cover cL_cover 5 (some .int) [(0, 10, 13, 33)]) ∈ wZ := List.mem_of_getElem? (i := 185) rfl
theorem zq_186 : (Cond.methodLink RL 223 yL_cover) ∈ wZ := List.mem_of_getElem? (i := 186) rfl
theorem zq_187 : (Cond.static yL_cover) ∈ wZ := List.mem_of_getElem? (i := 187) rfl
theorem zq_188 : (Cond.code yX13_cover cX13_cover 3 (some .int)) ∈ wZ := List.mem_of_getElem? (i := 188) rfl
theorem zq_189 : (Cond.methodLink RL 225 yX13_cover) ∈ wZ := List.mem_of_getElem? (i := 189) rfl
theorem zq_190 : (Cond.instanceMethod yX13_cover) ∈ wZ := List.mem_of_getElem? (i := 190) rfl
theorem zq_191 : (Cond.selects RX13 yX13_cover yX13_cover) ∈ wZ := List.mem_of_getElem? (i := 191) rfl
theorem zq_192 : (Cond.codeWith yL_colours cL_colours 5 (some .int) [(0, 9, 12, 33), (0, 9, 16, 19)]) ∈ wZ := List.mem_of_getElem? (i := 192) rfl
theorem zq_193 : (Cond.methodLink RL 226 yL_colours) ∈ wZ := List.mem_of_getElem? (i := 193) rfl
theorem zq_194 : (Cond.static yL_colours) ∈ wZ := List.mem_of_getElem? (i := 194) rfl
theorem zq_195 : (Cond.code yX13_colours cX13_colours 6 (some .long)) ∈ wZ := List.mem_of_getElem? (i := 195) rfl
theorem zq_196 : (Cond.methodLink RL 228 yX13_colours) ∈ wZ := List.mem_of_getElem? (i := 196) rfl
theorem zq_197 : (Cond.instanceMethod yX13_colours) ∈ wZ := List.mem_of_getElem? (i := 197) rfl
theorem zq_198 : (Cond.selects RX13 yX13_colours yX13_colours) ∈ wZ := List.mem_of_getElem? (i := 198) rfl
theorem zq_199 : (Cond.codeWith yL_maps cL_maps 5 (some .int) [(0, 10, 13, 33), (0, 10, 17, 19), (0, 10, 21, 54)]) ∈ wZ := List.mem_of_getElem? (i := 199) rfl
theorem zq_200 : (Cond.methodLink RL 229 yL_maps) ∈ wZ := List.mem_of_getElem? (i := 200) rfl
theorem zq_201 : (Cond.static yL_maps) ∈ wZ := List.mem_of_getElem? (i := 201) rfl
theorem zq_202 : (Cond.code yX13_maps cX13_maps 8 (some .int)) ∈ wZ := List.mem_of_getElem? (i := 202) rfl
theorem zq_203 : (Cond.methodLink RL 231 yX13_maps) ∈ wZ := List.mem_of_getElem? (i := 203) rfl
theorem zq_204 : (Cond.instanceMethod yX13_maps) ∈ wZ := List.mem_of_getElem? (i := 204) rfl
theorem zq_205 : (Cond.selects RX13 yX13_maps yX13_maps) ∈ wZ := List.mem_of_getElem? (i := 205) rfl
theorem zq_206 : (Cond.codeWith yL_chain cL_chain 5 (some .int) [(0, 10, 13, 33), (0, 10, 17, 19), (0, 10, 21, 54)]) ∈ wZ := List.mem_of_getElem? (i := 206) rfl
theorem zq_207 : (Cond.methodLink RL 232 yL_chain) ∈ wZ := List.mem_of_getElem? (i := 207) rfl
theorem zq_208 : (Cond.static yL_chain) ∈ wZ := List.mem_of_getElem? (i := 208) rfl
theorem zq_209 : (Cond.code yX13_chain cX13_chain 8 (some .int)) ∈ wZ := List.mem_of_getElem? (i := 209) rfl
theorem zq_210 : (Cond.methodLink RL 234 yX13_chain) ∈ wZ := List.mem_of_getElem? (i := 210) rfl
theorem zq_211 : (Cond.instanceMethod yX13_chain) ∈ wZ := List.mem_of_getElem? (i := 211) rfl
theorem zq_212 : (Cond.selects RX13 yX13_chain yX13_chain) ∈ wZ := List.mem_of_getElem? (i := 212) rfl
theorem zq_213 : (Cond.code yX11_rank cX11_rank 3 (some .int)) ∈ wZ := List.mem_of_getElem? (i := 213) rfl
theorem zq_214 : (Cond.methodLink RL 235 yX11_rank) ∈ wZ := List.mem_of_getElem? (i := 214) rfl
theorem zq_215 : (Cond.instanceMethod yX11_rank) ∈ wZ := List.mem_of_getElem? (i := 215) rfl
theorem zq_216 : (Cond.selects RX11 yX11_rank yX11_rank) ∈ wZ := List.mem_of_getElem? (i := 216) rfl
theorem zq_217 : (Cond.code yX13_rank cX13_rank 5 (some .int)) ∈ wZ := List.mem_of_getElem? (i := 217) rfl
theorem zq_218 : (Cond.methodLink RL 238 yX13_rank) ∈ wZ := List.mem_of_getElem? (i := 218) rfl
theorem zq_219 : (Cond.instanceMethod yX13_rank) ∈ wZ := List.mem_of_getElem? (i := 219) rfl
theorem zq_220 : (Cond.selects RX13 yX13_rank yX13_rank) ∈ wZ := List.mem_of_getElem? (i := 220) rfl
theorem zq_221 : (Cond.codeWith yL_closure cL_closure 4 (some .int) [(0, 9, 12, 33), (0, 9, 15, 54), (0, 9, 18, 13)]) ∈ wZ := List.mem_of_getElem? (i := 221) rfl
theorem zq_222 : (Cond.methodLink RL 239 yL_closure) ∈ wZ := List.mem_of_getElem? (i := 222) rfl
theorem zq_223 : (Cond.static yL_closure) ∈ wZ := List.mem_of_getElem? (i := 223) rfl
theorem zq_224 : (Cond.code yX13_closure cX13_closure 2 (some .int)) ∈ wZ := List.mem_of_getElem? (i := 224) rfl
theorem zq_225 : (Cond.methodLink RL 241 yX13_closure) ∈ wZ := List.mem_of_getElem? (i := 225) rfl
theorem zq_226 : (Cond.instanceMethod yX13_closure) ∈ wZ := List.mem_of_getElem? (i := 226) rfl
theorem zq_227 : (Cond.selects RX13 yX13_closure yX13_closure) ∈ wZ := List.mem_of_getElem? (i := 227) rfl
theorem zq_228 : (Cond.codeWith yL_product cL_product 5 (some .int) [(0, 10, 13, 33), (0, 10, 17, 19), (0, 10, 21, 54), (0, 10, 25, 13)]) ∈ wZ := List.mem_of_getElem? (i := 228) rfl
theorem zq_229 : (Cond.methodLink RL 242 yL_product) ∈ wZ := List.mem_of_getElem? (i := 229) rfl
theorem zq_230 : (Cond.static yL_product) ∈ wZ := List.mem_of_getElem? (i := 230) rfl
theorem zq_231 : (Cond.code yX13_product cX13_product 5 (some .int)) ∈ wZ := List.mem_of_getElem? (i := 231) rfl
theorem zq_232 : (Cond.methodLink RL 244 yX13_product) ∈ wZ := List.mem_of_getElem? (i := 232) rfl
theorem zq_233 : (Cond.instanceMethod yX13_product) ∈ wZ := List.mem_of_getElem? (i := 233) rfl
theorem zq_234 : (Cond.selects RX13 yX13_product yX13_product) ∈ wZ := List.mem_of_getElem? (i := 234) rfl
theorem zq_235 : (Cond.codeWith yL_inverse cL_inverse 4 (some .int) [(0, 9, 12, 33), (0, 9, 15, 13)]) ∈ wZ := List.mem_of_getElem? (i := 235) rfl
theorem zq_236 : (Cond.methodLink RL 245 yL_inverse) ∈ wZ := List.mem_of_getElem? (i := 236) rfl
theorem zq_237 : (Cond.static yL_inverse) ∈ wZ := List.mem_of_getElem? (i := 237) rfl
theorem zq_238 : (Cond.code yX13_inverse cX13_inverse 4 (some .int)) ∈ wZ := List.mem_of_getElem? (i := 238) rfl
theorem zq_239 : (Cond.methodLink RL 247 yX13_inverse) ∈ wZ := List.mem_of_getElem? (i := 239) rfl
theorem zq_240 : (Cond.instanceMethod yX13_inverse) ∈ wZ := List.mem_of_getElem? (i := 240) rfl
theorem zq_241 : (Cond.selects RX13 yX13_inverse yX13_inverse) ∈ wZ := List.mem_of_getElem? (i := 241) rfl
theorem zq_242 : (Cond.codeWith yL_normal cL_normal 5 (some .int) [(0, 10, 13, 33), (0, 10, 17, 19)]) ∈ wZ := List.mem_of_getElem? (i := 242) rfl
theorem zq_243 : (Cond.methodLink RL 248 yL_normal) ∈ wZ := List.mem_of_getElem? (i := 243) rfl
theorem zq_244 : (Cond.static yL_normal) ∈ wZ := List.mem_of_getElem? (i := 244) rfl
theorem zq_245 : (Cond.code yX13_normal cX13_normal 3 (some .int)) ∈ wZ := List.mem_of_getElem? (i := 245) rfl
theorem zq_246 : (Cond.methodLink RL 250 yX13_normal) ∈ wZ := List.mem_of_getElem? (i := 246) rfl
theorem zq_247 : (Cond.instanceMethod yX13_normal) ∈ wZ := List.mem_of_getElem? (i := 247) rfl
theorem zq_248 : (Cond.selects RX13 yX13_normal yX13_normal) ∈ wZ := List.mem_of_getElem? (i := 248) rfl
theorem zq_249 : (Cond.codeWith yL_factor cL_factor 6 (some .int) [(0, 12, 15, 33)]) ∈ wZ := List.mem_of_getElem? (i := 249) rfl
theorem zq_250 : (Cond.methodLink RL 251 yL_factor) ∈ wZ := List.mem_of_getElem? (i := 250) rfl
theorem zq_251 : (Cond.static yL_factor) ∈ wZ := List.mem_of_getElem? (i := 251) rfl
theorem zq_252 : (Cond.code yX13_factor cX13_factor 4 (some .int)) ∈ wZ := List.mem_of_getElem? (i := 252) rfl
theorem zq_253 : (Cond.methodLink RL 253 yX13_factor) ∈ wZ := List.mem_of_getElem? (i := 253) rfl
theorem zq_254 : (Cond.instanceMethod yX13_factor) ∈ wZ := List.mem_of_getElem? (i := 254) rfl
theorem zq_255 : (Cond.selects RX13 yX13_factor yX13_factor) ∈ wZ := List.mem_of_getElem? (i := 255) rfl
theorem zq_256 : (Cond.code yX11_equal cX11_equal 3 (some .boolean)) ∈ wZ := List.mem_of_getElem? (i := 256) rfl
theorem zq_257 : (Cond.methodLink RL 254 yX11_equal) ∈ wZ := List.mem_of_getElem? (i := 257) rfl
theorem zq_258 : (Cond.instanceMethod yX11_equal) ∈ wZ := List.mem_of_getElem? (i := 258) rfl
theorem zq_259 : (Cond.selects RX11 yX11_equal yX11_equal) ∈ wZ := List.mem_of_getElem? (i := 259) rfl
theorem zq_260 : (Cond.code yX13_equal cX13_equal 3 (some .boolean)) ∈ wZ := List.mem_of_getElem? (i := 260) rfl
theorem zq_261 : (Cond.methodLink RL 257 yX13_equal) ∈ wZ := List.mem_of_getElem? (i := 261) rfl
theorem zq_262 : (Cond.instanceMethod yX13_equal) ∈ wZ := List.mem_of_getElem? (i := 262) rfl
theorem zq_263 : (Cond.selects RX13 yX13_equal yX13_equal) ∈ wZ := List.mem_of_getElem? (i := 263) rfl
theorem zq_264 : (Cond.codeWith yL_summit cL_summit 4 (some .int) [(0, 9, 12, 33), (0, 9, 15, 54)]) ∈ wZ := List.mem_of_getElem? (i := 264) rfl
theorem zq_265 : (Cond.methodLink RL 258 yL_summit) ∈ wZ := List.mem_of_getElem? (i := 265) rfl
theorem zq_266 : (Cond.static yL_summit) ∈ wZ := List.mem_of_getElem? (i := 266) rfl
theorem zq_267 : (Cond.code yX13_summit cX13_summit 2 (some .int)) ∈ wZ := List.mem_of_getElem? (i := 267) rfl
theorem zq_268 : (Cond.methodLink RL 260 yX13_summit) ∈ wZ := List.mem_of_getElem? (i := 268) rfl
theorem zq_269 : (Cond.instanceMethod yX13_summit) ∈ wZ := List.mem_of_getElem? (i := 269) rfl
theorem zq_270 : (Cond.selects RX13 yX13_summit yX13_summit) ∈ wZ := List.mem_of_getElem? (i := 270) rfl
theorem zq_271 : (Cond.codeWith yL_conjugate cL_conjugate 5 (some .int) [(0, 10, 13, 33), (0, 10, 17, 19), (0, 10, 21, 54)]) ∈ wZ := List.mem_of_getElem? (i := 271) rfl
theorem zq_272 : (Cond.methodLink RL 261 yL_conjugate) ∈ wZ := List.mem_of_getElem? (i := 272) rfl
theorem zq_273 : (Cond.static yL_conjugate) ∈ wZ := List.mem_of_getElem? (i := 273) rfl
theorem zq_274 : (Cond.code yX13_conjugate cX13_conjugate 4 (some .int)) ∈ wZ := List.mem_of_getElem? (i := 274) rfl
theorem zq_275 : (Cond.methodLink RL 263 yX13_conjugate) ∈ wZ := List.mem_of_getElem? (i := 275) rfl
theorem zq_276 : (Cond.instanceMethod yX13_conjugate) ∈ wZ := List.mem_of_getElem? (i := 276) rfl
theorem zq_277 : (Cond.selects RX13 yX13_conjugate yX13_conjugate) ∈ wZ := List.mem_of_getElem? (i := 277) rfl
theorem zq_278 : (Cond.codeWith yL_two cL_two 6 (some .int) [(0, 12, 15, 33), (0, 12, 19, 54)]) ∈ wZ := List.mem_of_getElem? (i := 278) rfl
theorem zq_279 : (Cond.methodLink RL 264 yL_two) ∈ wZ := List.mem_of_getElem? (i := 279) rfl
theorem zq_280 : (Cond.static yL_two) ∈ wZ := List.mem_of_getElem? (i := 280) rfl
theorem zq_281 : (Cond.code yX13_two cX13_two 5 (some .int)) ∈ wZ := List.mem_of_getElem? (i := 281) rfl
theorem zq_282 : (Cond.methodLink RL 266 yX13_two) ∈ wZ := List.mem_of_getElem? (i := 282) rfl
theorem zq_283 : (Cond.instanceMethod yX13_two) ∈ wZ := List.mem_of_getElem? (i := 283) rfl
theorem zq_284 : (Cond.selects RX13 yX13_two yX13_two) ∈ wZ := List.mem_of_getElem? (i := 284) rfl
