/-- what the start gives: no stack traces, the tables, what the throws need -/
def ow_LG (l : Launch) (s : State) (dC : Nat → ClassId) (dI : Nat → Nat → Nat) (cI cB cJ cZ : ClassId) (sa : Nat → Nat) : Prop := l.stackTraces = false ∧ va_K (dC, dI) vwCl [(cI, .int), (cB, .byte), (cJ, .long), (cZ, .boolean)] s ∧ ow_N13 s ∧ (ow_Th (fun q : Nat => s.heap.size ≤ q) RX11 166 "no such diagram" (sa 0) "java/lang/IndexOutOfBoundsException" s ∧ ow_Th (fun q : Nat => s.heap.size ≤ q) RX11 172 "no such braid" (sa 1) "java/lang/IndexOutOfBoundsException" s ∧ ow_Th (fun q : Nat => s.heap.size ≤ q) RX11 294 "so many were not found" (sa 2) "java/lang/IndexOutOfBoundsException" s ∧ ow_Th (fun q : Nat => s.heap.size ≤ q) RX11 130 "the tape has not so many bytes" (sa 3) "java/lang/IllegalArgumentException" s ∧ ow_Th (fun q : Nat => s.heap.size ≤ q) RX11 149 "a braid has 2 to 5 strands" (sa 4) "java/lang/IllegalArgumentException" s)
theorem dL_law_23 : decode cL_law 23 = .ok (.iload 4, 2) := by decide +kernel
theorem dL_law_25 : decode cL_law 25 = .ok (.aload_n 0, 1) := by decide +kernel
theorem dL_law_26 : decode cL_law 26 = .ok (.arraylength, 1) := by decide +kernel
theorem dL_law_27 : decode cL_law 27 = .ok (.bipush 6, 2) := by decide +kernel
theorem dL_law_29 : decode cL_law 29 = .ok (.isub, 1) := by decide +kernel
theorem dL_law_30 : decode cL_law 30 = .ok (.if_icmp .gt 2592, 3) := by decide +kernel
theorem dL_law_33 : decode cL_law 33 = .ok (.aload_n 0, 1) := by decide +kernel
theorem dL_law_34 : decode cL_law 34 = .ok (.iload 4, 2) := by decide +kernel
theorem dL_law_36 : decode cL_law 36 = .ok (.iaload, 1) := by decide +kernel
theorem dL_law_37 : decode cL_law 37 = .ok (.bipush 63, 2) := by decide +kernel
theorem dL_law_39 : decode cL_law 39 = .ok (.iand, 1) := by decide +kernel
theorem dL_law_40 : decode cL_law 40 = .ok (.tableswitch 2576 0 38 #[172, 276, 312, 356, 412, 437, 462, 530, 610, 690, 727, 783, 851, 919, 987, 1055, 1147, 1215, 1271, 1327, 1395, 1451, 1507, 1575, 1643, 1699, 1767, 1834, 1902, 1970, 2007, 2063, 2131, 2187, 2255, 2335, 2372, 2428, 2496], 172) := by decide +kernel
theorem dL_law_2616 : decode cL_law 2616 = .ok (.iinc 4 6, 3) := by decide +kernel
theorem dL_law_2619 : decode cL_law 2619 = .ok (.goto (-2596), 3) := by decide +kernel
theorem dL_law_2622 : decode cL_law 2622 = .ok (.iconst 1, 1) := by decide +kernel
theorem dL_law_2623 : decode cL_law 2623 = .ok (.ireturn, 1) := by decide +kernel
set_option maxHeartbeats 4000000 in
set_option maxRecDepth 100000 in
theorem lc_fin {p : Program} {l : Launch} {e : Env} {s : State} {m : MethodId} {below : List Frame} {meth : Method} {c : Code} {b : Nat} {xs : Nat → Int32} (C0 : lw_At p s m meth c b 6 xs) {H : Heap} {locs : List Loc} {cc ss : Nat} {ls : Array Slot} (hS : va_S (fun q : Nat => s.heap.size ≤ q) s.heap H locs) (hl : lv_has ls 8 [(0, .ref b), (4, .int 0)]) (hc : cc ≤ 601024) (hs : ss ≤ 7293033) : W p l e room_1 s m #[Value.ref b] below meth c H locs cc ss (lw_Z below #[Value.ref b] s) (F0 m 2616 ls []) := by
  obtain ⟨hx, hb, hr, hml, hown, hts, hX, hbl, hlocks, hgv⟩ := C0
  have hbA : ¬ (fun q : Nat => s.heap.size ≤ q) b := Nat.not_le.mpr hbl
  refine lv_iinc (v := 6) (lv' := [(4, .int 6), (0, .ref b)]) hx hb dL_law_2616 hl (k := 1) rfl (by decide) (by decide) rfl (fun ls hl => ?_)
  refine lv_goto (tgt := 23) hx hb dL_law_2619 (by decide) ?_
  refine lv_iload hx hb dL_law_23 (lv_at hl 0 rfl) ?_
  refine lv_aload_n hx hb dL_law_25 rfl (lv_at hl 1 rfl) ?_
  refine va_slen hx hb hX hbl hbA hS dL_law_26 ?_
  refine lv_bipush (v := 6) hx hb dL_law_27 (by decide) ?_
  refine lv_isub hx hb dL_law_29 ?_
  refine lv_icmp_gt (tgt := 2622) hx hb dL_law_30 (by decide) (fun _ => ?_) (fun c9 => absurd (by decide) c9)
  refine lv_iconst (v := 1) hx hb dL_law_2622 (by decide) ?_
  refine va_forget (fun q hq => hS.2.2 q hq) ?_
  refine W.widen (k := 601024) (n := 7293033) hc hs ?_
  exact lw_ret hx hb hr hlocks dL_law_2623
set_option maxHeartbeats 4000000 in
set_option maxRecDepth 100000 in
theorem kf_X13_thrownN (l : Launch) (dC : Nat → ClassId) (dI : Nat → Nat → Nat) (cI cB cJ cZ : ClassId) (h0 : Nat) (fs : List Value) (x : Int32) (h0x : fs[0]? = some (.int x)) : Met l yX13_thrown wf_Mthrown (({ frames := 0, cells := 0, slots := 0, locals := 0 } : Room)) (va_Pc [.ref h0] (fun U => va_P (dC, dI) vwCl [(h0, .inr (16, fs))] U.heap ∧ va_K (dC, dI) vwCl [(cI, .int), (cB, .byte), (cJ, .long), (cZ, .boolean)] U)) (va_Qi (fun r (_ : Unit) => r = x) (fun _ _ => True) (fun _ => False)) 0 0 (fun _ => False) := by
  refine Met.ofW (cc := cX13_thrown) (maxL := 1) (ret := (some .int)) (by decide) rfl ?_
  intro p e s m args below meth c s₁ B hml hv
  obtain ⟨rfl, hP, hK⟩ := hv
  have hx := B.exec
  have hb := B.bytes
  have hr := B.returns
  have hts := atoms_spec (ws := wf_Mthrown) B.pre
  have hown : s.vm.findClass RX13 = some m.cls := findClass_of_methodNamed B.named
  have hlocks := B.notSynchronized
  have hS : va_S (fun _ => False) s.heap s.heap [] := va_S.rf
  have hP : va_P (dC, dI) vwCl [(h0, .inr (16, fs))] s.heap := hP
  have hl := lv_entry ([.ref h0]) (n := 1) (Nat.le_of_ble_eq_true rfl)
  rw [lg_entry_eq]
  generalize (lg_sl ([.ref h0]) ++ List.replicate (1 - (lg_sl ([.ref h0])).length) Slot.unset).toArray = ls at hl ⊢
  have hl : lv_has ls 1 [(0, .ref h0)] := hl
  refine ow_named (fun QQ hQQ => ?_)
  refine lv_aload_n hx hb dX13_thrown_0 rfl (lv_at hl 0 rfl) ?_
  refine va_get (D := (dC, dI)) (ci := 16) (v := .int x) (C := RX13) (T := TX13) (N := 120) hx hb hts (fun _ h => List.mem_cons_of_mem _ (List.mem_append_right _ h)) hown hK hP 0 rfl rfl 0 (by decide) (hts (.fieldLink RX13 1 "KnotHouseModel" "thrown" "I") (by decide +kernel)) (fun _ h9 => h9) h0x dX13_thrown_1 ?_
  rw [hQQ]
  exact W.iret (v := x) hx hb hr (fun t ht hW => ⟨⟨x, (), rfl, rfl, trivial⟩, hS.F ht⟩) hS.2.2 dX13_thrown_4
theorem dL_law_212 : decode cL_law 212 = .ok (.aload_n 1, 1) := by decide +kernel
theorem dL_law_213 : decode cL_law 213 = .ok (.aload_n 0, 1) := by decide +kernel
theorem dL_law_214 : decode cL_law 214 = .ok (.iload 4, 2) := by decide +kernel
theorem dL_law_216 : decode cL_law 216 = .ok (.iconst 1, 1) := by decide +kernel
theorem dL_law_217 : decode cL_law 217 = .ok (.iadd, 1) := by decide +kernel
theorem dL_law_218 : decode cL_law 218 = .ok (.iaload, 1) := by decide +kernel
theorem dL_law_219 : decode cL_law 219 = .ok (.aload_n 0, 1) := by decide +kernel
theorem dL_law_220 : decode cL_law 220 = .ok (.iload 4, 2) := by decide +kernel
theorem dL_law_222 : decode cL_law 222 = .ok (.iconst 2, 1) := by decide +kernel
theorem dL_law_223 : decode cL_law 223 = .ok (.iadd, 1) := by decide +kernel
theorem dL_law_224 : decode cL_law 224 = .ok (.iaload, 1) := by decide +kernel
theorem dL_law_225 : decode cL_law 225 = .ok (.aload_n 0, 1) := by decide +kernel
theorem dL_law_226 : decode cL_law 226 = .ok (.iload 4, 2) := by decide +kernel
theorem dL_law_228 : decode cL_law 228 = .ok (.iconst 3, 1) := by decide +kernel
theorem dL_law_229 : decode cL_law 229 = .ok (.iadd, 1) := by decide +kernel
theorem dL_law_230 : decode cL_law 230 = .ok (.iaload, 1) := by decide +kernel
theorem dL_law_231 : decode cL_law 231 = .ok (.aload_n 0, 1) := by decide +kernel
theorem dL_law_232 : decode cL_law 232 = .ok (.iload 4, 2) := by decide +kernel
theorem dL_law_234 : decode cL_law 234 = .ok (.iconst 4, 1) := by decide +kernel
theorem dL_law_235 : decode cL_law 235 = .ok (.iadd, 1) := by decide +kernel
theorem dL_law_236 : decode cL_law 236 = .ok (.iaload, 1) := by decide +kernel
theorem dL_law_237 : decode cL_law 237 = .ok (.aload_n 0, 1) := by decide +kernel
theorem dL_law_238 : decode cL_law 238 = .ok (.iload 4, 2) := by decide +kernel
theorem dL_law_240 : decode cL_law 240 = .ok (.iconst 5, 1) := by decide +kernel
theorem dL_law_241 : decode cL_law 241 = .ok (.iadd, 1) := by decide +kernel
theorem dL_law_242 : decode cL_law 242 = .ok (.iaload, 1) := by decide +kernel
theorem dL_law_243 : decode cL_law 243 = .ok (.aload_n 3, 1) := by decide +kernel
theorem dL_law_244 : decode cL_law 244 = .ok (.invokestatic 131, 3) := by decide +kernel
theorem dL_law_247 : decode cL_law 247 = .ok (.istore 5, 2) := by decide +kernel
theorem dL_law_249 : decode cL_law 249 = .ok (.aload_n 2, 1) := by decide +kernel
theorem dL_law_250 : decode cL_law 250 = .ok (.aload_n 0, 1) := by decide +kernel
theorem dL_law_251 : decode cL_law 251 = .ok (.iload 4, 2) := by decide +kernel
theorem dL_law_253 : decode cL_law 253 = .ok (.iconst 1, 1) := by decide +kernel
theorem dL_law_254 : decode cL_law 254 = .ok (.iadd, 1) := by decide +kernel
theorem dL_law_255 : decode cL_law 255 = .ok (.iaload, 1) := by decide +kernel
theorem dL_law_256 : decode cL_law 256 = .ok (.aload_n 0, 1) := by decide +kernel
theorem dL_law_257 : decode cL_law 257 = .ok (.iload 4, 2) := by decide +kernel
theorem dL_law_259 : decode cL_law 259 = .ok (.iconst 2, 1) := by decide +kernel
theorem dL_law_260 : decode cL_law 260 = .ok (.iadd, 1) := by decide +kernel
theorem dL_law_261 : decode cL_law 261 = .ok (.iaload, 1) := by decide +kernel
theorem dL_law_262 : decode cL_law 262 = .ok (.aload_n 0, 1) := by decide +kernel
theorem dL_law_263 : decode cL_law 263 = .ok (.iload 4, 2) := by decide +kernel
theorem dL_law_265 : decode cL_law 265 = .ok (.iconst 3, 1) := by decide +kernel
theorem dL_law_266 : decode cL_law 266 = .ok (.iadd, 1) := by decide +kernel
theorem dL_law_267 : decode cL_law 267 = .ok (.iaload, 1) := by decide +kernel
theorem dL_law_268 : decode cL_law 268 = .ok (.aload_n 0, 1) := by decide +kernel
theorem dL_law_269 : decode cL_law 269 = .ok (.iload 4, 2) := by decide +kernel
theorem dL_law_271 : decode cL_law 271 = .ok (.iconst 4, 1) := by decide +kernel
theorem dL_law_272 : decode cL_law 272 = .ok (.iadd, 1) := by decide +kernel
theorem dL_law_273 : decode cL_law 273 = .ok (.iaload, 1) := by decide +kernel
theorem dL_law_274 : decode cL_law 274 = .ok (.aload_n 0, 1) := by decide +kernel
theorem dL_law_275 : decode cL_law 275 = .ok (.iload 4, 2) := by decide +kernel
theorem dL_law_277 : decode cL_law 277 = .ok (.iconst 5, 1) := by decide +kernel
theorem dL_law_278 : decode cL_law 278 = .ok (.iadd, 1) := by decide +kernel
theorem dL_law_279 : decode cL_law 279 = .ok (.iaload, 1) := by decide +kernel
theorem dL_law_280 : decode cL_law 280 = .ok (.invokevirtual 136, 3) := by decide +kernel
theorem dL_law_283 : decode cL_law 283 = .ok (.istore 6, 2) := by decide +kernel
theorem dL_law_285 : decode cL_law 285 = .ok (.aload_n 2, 1) := by decide +kernel
theorem dL_law_286 : decode cL_law 286 = .ok (.invokevirtual 137, 3) := by decide +kernel
theorem dL_law_289 : decode cL_law 289 = .ok (.iload 5, 2) := by decide +kernel
theorem dL_law_291 : decode cL_law 291 = .ok (.if_icmp .eq 5, 3) := by decide +kernel
theorem dL_law_294 : decode cL_law 294 = .ok (.iconst 0, 1) := by decide +kernel
theorem dL_law_295 : decode cL_law 295 = .ok (.ireturn, 1) := by decide +kernel
theorem dL_law_296 : decode cL_law 296 = .ok (.iload 5, 2) := by decide +kernel
theorem dL_law_298 : decode cL_law 298 = .ok (.ifCond .ne 15, 3) := by decide +kernel
theorem dL_law_301 : decode cL_law 301 = .ok (.aload_n 3, 1) := by decide +kernel
theorem dL_law_302 : decode cL_law 302 = .ok (.iconst 0, 1) := by decide +kernel
theorem dL_law_303 : decode cL_law 303 = .ok (.laload, 1) := by decide +kernel
theorem dL_law_304 : decode cL_law 304 = .ok (.iload 6, 2) := by decide +kernel
theorem dL_law_306 : decode cL_law 306 = .ok (.i2l, 1) := by decide +kernel
theorem dL_law_307 : decode cL_law 307 = .ok (.lcmp, 1) := by decide +kernel
theorem dL_law_308 : decode cL_law 308 = .ok (.ifCond .eq 5, 3) := by decide +kernel
theorem dL_law_311 : decode cL_law 311 = .ok (.iconst 0, 1) := by decide +kernel
theorem dL_law_312 : decode cL_law 312 = .ok (.ireturn, 1) := by decide +kernel
theorem dL_law_313 : decode cL_law 313 = .ok (.goto 2303, 3) := by decide +kernel
set_option maxHeartbeats 4000000 in
set_option maxRecDepth 100000 in
theorem lc_feed {p : Program} {l : Launch} {e : Env} {s : State} {m : MethodId} {below : List Frame} {meth : Method} {c : Code} {b : Nat} {xs : Nat → Int32} {dC : Nat → ClassId} {dI : Nat → Nat → Nat} {cI cB cJ cZ : ClassId} {sa : Nat → Nat} (C0 : lw_At p s m meth c b 6 xs) (hG : ow_LG l s dC dI cI cB cJ cZ sa) {x y qo : Nat} {u : Nat → Nat} {v : List Value × (Nat → Nat)} (hv : kn_X13_init v) {H : Heap} {locs : List Loc} {ls : Array Slot} (hP : va_P (dC, dI) vwCl (wd_X11_init cI cB cJ x u ++ (wd_X13_init cI cB y v ++ [(qo, .inl (cJ, 1, .inr (.inl (fun _ => 0))))])) H) (hD : va_D (fun q : Nat => s.heap.size ≤ q) (wd_X11_init cI cB cJ x u ++ (wd_X13_init cI cB y v ++ [(qo, .inl (cJ, 1, .inr (.inl (fun _ => 0))))]))) (hS : va_S (fun q : Nat => s.heap.size ≤ q) s.heap H locs) (hl : lv_has ls 8 [(0, .ref b), (1, .ref x), (2, .ref y), (3, .ref qo), (4, .int 0)]) : W p l e room_1 s m #[Value.ref b] below meth c H locs 694 1334208 (lw_Z below #[Value.ref b] s) (F0 m 212 ls []) := by
  obtain ⟨hx, hb, hr, hml, hown, hts, hX, hbl, hlocks, hgv⟩ := id C0
  have hown : s.vm.findClass RL = some m.cls := hown
  have hA : ∀ q : Nat, s.heap.size ≤ q → (fun q : Nat => s.heap.size ≤ q) q := fun _ h => h
  have hbA : ¬ (fun q : Nat => s.heap.size ≤ q) b := Nat.not_le.mpr hbl
  have hK := hG.2.1
  have hP := hP.sub (ws' := [(x, .inr (14, [.ref (u 0), .ref (u 1), .ref (u 2), .ref (u 3), .ref (u 4), .ref (u 5), .ref (u 6), .ref (u 7), .ref (u 8), .ref (u 9), .ref (u 10), .ref (u 11), .ref (u 12), .ref (u 13), .ref (u 14), .ref (u 15), .ref (u 16), .ref (u 17), .ref (u 18)])), ((u 7), .inr (12, [.int 0, .ref (u 63), .ref (u 64), .ref (u 65), .int 0, .int 0])), ((u 63), .inl (cB, 400, .inl (fun _ => 0))), (y, .inr (16, v.1)), ((v.2 0), .inl (cB, 400, .inl (fun _ => 0))), (qo, .inl (cJ, 1, .inr (.inl (fun _ => 0))))]) [0, 51, 52, 60, 61, 71] rfl
  have hD := hD.sub (ws' := [(x, .inr (14, [.ref (u 0), .ref (u 1), .ref (u 2), .ref (u 3), .ref (u 4), .ref (u 5), .ref (u 6), .ref (u 7), .ref (u 8), .ref (u 9), .ref (u 10), .ref (u 11), .ref (u 12), .ref (u 13), .ref (u 14), .ref (u 15), .ref (u 16), .ref (u 17), .ref (u 18)])), ((u 7), .inr (12, [.int 0, .ref (u 63), .ref (u 64), .ref (u 65), .int 0, .int 0])), ((u 63), .inl (cB, 400, .inl (fun _ => 0))), (y, .inr (16, v.1)), ((v.2 0), .inl (cB, 400, .inl (fun _ => 0))), (qo, .inl (cJ, 1, .inr (.inl (fun _ => 0))))]) [0, 51, 52, 60, 61, 71] (by decide) rfl
  refine lv_aload_n hx hb dL_law_212 rfl (lv_at hl 1 rfl) ?_
  refine lv_aload_n hx hb dL_law_213 rfl (lv_at hl 0 rfl) ?_
  refine lv_iload hx hb dL_law_214 (lv_at hl 4 rfl) ?_
  refine lv_iconst (v := 1) hx hb dL_law_216 (by decide) ?_
  refine lv_iadd hx hb dL_law_217 ?_
  refine ow_topi (y := 1) (by decide) ?_
  refine va_sld hx hb hX hbl hbA hS (vp_in_nI (n := 1) (N := 6) (by decide) (by decide)) dL_law_218 ?_
  refine ow_topi (y := xs 1) (congrArg xs (by decide)) ?_
  refine lv_aload_n hx hb dL_law_219 rfl (lv_at hl 0 rfl) ?_
  refine lv_iload hx hb dL_law_220 (lv_at hl 4 rfl) ?_
  refine lv_iconst (v := 2) hx hb dL_law_222 (by decide) ?_
  refine lv_iadd hx hb dL_law_223 ?_
  refine ow_topi (y := 2) (by decide) ?_
  refine va_sld hx hb hX hbl hbA hS (vp_in_nI (n := 2) (N := 6) (by decide) (by decide)) dL_law_224 ?_
  refine ow_topi (y := xs 2) (congrArg xs (by decide)) ?_
  refine lv_aload_n hx hb dL_law_225 rfl (lv_at hl 0 rfl) ?_
  refine lv_iload hx hb dL_law_226 (lv_at hl 4 rfl) ?_
  refine lv_iconst (v := 3) hx hb dL_law_228 (by decide) ?_
  refine lv_iadd hx hb dL_law_229 ?_
  refine ow_topi (y := 3) (by decide) ?_
  refine va_sld hx hb hX hbl hbA hS (vp_in_nI (n := 3) (N := 6) (by decide) (by decide)) dL_law_230 ?_
  refine ow_topi (y := xs 3) (congrArg xs (by decide)) ?_
  refine lv_aload_n hx hb dL_law_231 rfl (lv_at hl 0 rfl) ?_
  refine lv_iload hx hb dL_law_232 (lv_at hl 4 rfl) ?_
  refine lv_iconst (v := 4) hx hb dL_law_234 (by decide) ?_
  refine lv_iadd hx hb dL_law_235 ?_
  refine ow_topi (y := 4) (by decide) ?_
  refine va_sld hx hb hX hbl hbA hS (vp_in_nI (n := 4) (N := 6) (by decide) (by decide)) dL_law_236 ?_
  refine ow_topi (y := xs 4) (congrArg xs (by decide)) ?_
  refine lv_aload_n hx hb dL_law_237 rfl (lv_at hl 0 rfl) ?_
  refine lv_iload hx hb dL_law_238 (lv_at hl 4 rfl) ?_
  refine lv_iconst (v := 5) hx hb dL_law_240 (by decide) ?_
  refine lv_iadd hx hb dL_law_241 ?_
  refine ow_topi (y := 5) (by decide) ?_
  refine va_sld hx hb hX hbl hbA hS (vp_in_nI (n := 5) (N := 6) (by decide) (by decide)) dL_law_242 ?_
  refine ow_topi (y := xs 5) (congrArg xs (by decide)) ?_
  refine lv_aload_n hx hb dL_law_243 rfl (lv_at hl 3 rfl) ?_
  have hPc := hP.sub (ws' := [(x, .inr (14, [.ref (u 0), .ref (u 1), .ref (u 2), .ref (u 3), .ref (u 4), .ref (u 5), .ref (u 6), .ref (u 7), .ref (u 8), .ref (u 9), .ref (u 10), .ref (u 11), .ref (u 12), .ref (u 13), .ref (u 14), .ref (u 15), .ref (u 16), .ref (u 17), .ref (u 18)])), ((u 7), .inr (12, [.int 0, .ref (u 63), .ref (u 64), .ref (u 65), .int 0, .int 0])), ((u 63), .inl (cB, 400, .inl (fun _ => 0))), (qo, .inl (cJ, 1, .inr (.inl (fun _ => 0))))]) [0, 1, 2, 5] rfl
  have hDc := hD.sub (ws' := [(x, .inr (14, [.ref (u 0), .ref (u 1), .ref (u 2), .ref (u 3), .ref (u 4), .ref (u 5), .ref (u 6), .ref (u 7), .ref (u 8), .ref (u 9), .ref (u 10), .ref (u 11), .ref (u 12), .ref (u 13), .ref (u 14), .ref (u 15), .ref (u 16), .ref (u 17), .ref (u 18)])), ((u 7), .inr (12, [.int 0, .ref (u 63), .ref (u 64), .ref (u 65), .int 0, .int 0])), ((u 63), .inl (cB, 400, .inl (fun _ => 0))), (qo, .inl (cJ, 1, .inr (.inl (fun _ => 0))))]) [0, 1, 2, 5] (by decide) rfl
  have hFc := va_free (wc := [(x, .inr (14, [.ref (u 0), .ref (u 1), .ref (u 2), .ref (u 3), .ref (u 4), .ref (u 5), .ref (u 6), .ref (u 7), .ref (u 8), .ref (u 9), .ref (u 10), .ref (u 11), .ref (u 12), .ref (u 13), .ref (u 14), .ref (u 15), .ref (u 16), .ref (u 17), .ref (u 18)])), ((u 7), .inr (12, [.int 0, .ref (u 63), .ref (u 64), .ref (u 65), .int 0, .int 0])), ((u 63), .inl (cB, 400, .inl (fun _ => 0))), (qo, .inl (cJ, 1, .inr (.inl (fun _ => 0))))]) hD hS hA [0, 1, 2, 5] rfl
  refine vx_calli (vx_runSX (As := [.ref x, .int (xs 1), .int (xs 2), .int (xs 3), .int (xs 4), .int (xs 5), .ref qo]) (rest := []) ⟨hx, hb, hml, hown, hts⟩ (kf_L_feed l dC dI cI cB cJ cZ x qo H.size u (fun _ => 0) (xs 1) (xs 2) (xs 3) (xs 4) (xs 5)) (vx_cwSW 7 hts gw_L_feed rfl rfl rfl (by decide +kernel) ⟨(Nat.le_of_ble_eq_true rfl), (Nat.le_of_ble_eq_true rfl)⟩) ⟨fun a U g mk q => by obtain ⟨q0, q1, qP, qK, qD⟩ := q; exact ⟨q0, q1, qP, va_K.moved (u := U) (U := U.calling g mk a) (Vm.Alike.refl U.vm) qK, qD⟩, fun U hU hW => ⟨rfl, by rw [hU], by rw [hU]; exact hPc, va_K.moved hW.alike hK, hDc.weaken (fun _ _ _ _ => trivial)⟩⟩ rfl rfl hl.1 rfl (lv_room (Nat.le_of_ble_eq_true rfl)) dL_law_244 ⟨(Nat.le_of_ble_eq_true rfl), (Nat.le_of_ble_eq_true rfl)⟩) hS (fun q _ h => hFc q h) hFc (fun q _ h => hFc q h) (fun E ce q9 u9 t H1 locs1 ht hvm hp hB hz hk hS hce hcv hcl => hp.elim) (fun r7 g7 t H1 locs ht hvm hw hB hz1 hk1 hS => ?_)
  obtain ⟨hP1, hD1⟩ := hB
  rw [ht] at hP1
  obtain ⟨hP, hD⟩ := va_join (wr := [(y, .inr (16, v.1)), ((v.2 0), .inl (cB, 400, .inl (fun _ => 0)))]) (w1 := [(qo, .inl (cJ, 1, .inr (.inl g7)))]) hP hD [0, 1, 2, 5] [3, 4] rfl rfl (by decide) (by decide) hk1 hFc hP1 hD1
  generalize H1 = H at hP hS ⊢
  have hP : va_P (dC, dI) vwCl [(y, .inr (16, v.1)), ((v.2 0), .inl (cB, 400, .inl (fun _ => 0))), (qo, .inl (cJ, 1, .inr (.inl g7)))] H := hP
  have hD : va_D (fun q : Nat => s.heap.size ≤ q) [(y, .inr (16, v.1)), ((v.2 0), .inl (cB, 400, .inl (fun _ => 0))), (qo, .inl (cJ, 1, .inr (.inl g7)))] := hD
  refine W.widen (k := 694) (n := 1334208) (Nat.le_of_ble_eq_true rfl) (Nat.le_of_ble_eq_true rfl) ?_
  obtain ⟨hr7, hg7⟩ := hw
  subst hr7
  refine lv_istore (lv' := [(5, .int 0), (0, .ref b), (1, .ref x), (2, .ref y), (3, .ref qo), (4, .int 0)]) hx hb dL_law_247 hl (by decide) rfl (fun ls hl => ?_)
  refine lv_aload_n hx hb dL_law_249 rfl (lv_at hl 3 rfl) ?_
  refine lv_aload_n hx hb dL_law_250 rfl (lv_at hl 1 rfl) ?_
  refine lv_iload hx hb dL_law_251 (lv_at hl 5 rfl) ?_
  refine lv_iconst (v := 1) hx hb dL_law_253 (by decide) ?_
  refine lv_iadd hx hb dL_law_254 ?_
  refine ow_topi (y := 1) (by decide) ?_
  refine va_sld hx hb hX hbl hbA hS (vp_in_nI (n := 1) (N := 6) (by decide) (by decide)) dL_law_255 ?_
  refine ow_topi (y := xs 1) (congrArg xs (by decide)) ?_
  refine lv_aload_n hx hb dL_law_256 rfl (lv_at hl 1 rfl) ?_
  refine lv_iload hx hb dL_law_257 (lv_at hl 5 rfl) ?_
  refine lv_iconst (v := 2) hx hb dL_law_259 (by decide) ?_
  refine lv_iadd hx hb dL_law_260 ?_
  refine ow_topi (y := 2) (by decide) ?_
  refine va_sld hx hb hX hbl hbA hS (vp_in_nI (n := 2) (N := 6) (by decide) (by decide)) dL_law_261 ?_
  refine ow_topi (y := xs 2) (congrArg xs (by decide)) ?_
  refine lv_aload_n hx hb dL_law_262 rfl (lv_at hl 1 rfl) ?_
  refine lv_iload hx hb dL_law_263 (lv_at hl 5 rfl) ?_
  refine lv_iconst (v := 3) hx hb dL_law_265 (by decide) ?_
  refine lv_iadd hx hb dL_law_266 ?_
  refine ow_topi (y := 3) (by decide) ?_
  refine va_sld hx hb hX hbl hbA hS (vp_in_nI (n := 3) (N := 6) (by decide) (by decide)) dL_law_267 ?_
  refine ow_topi (y := xs 3) (congrArg xs (by decide)) ?_
  refine lv_aload_n hx hb dL_law_268 rfl (lv_at hl 1 rfl) ?_
  refine lv_iload hx hb dL_law_269 (lv_at hl 5 rfl) ?_
  refine lv_iconst (v := 4) hx hb dL_law_271 (by decide) ?_
  refine lv_iadd hx hb dL_law_272 ?_
  refine ow_topi (y := 4) (by decide) ?_
  refine va_sld hx hb hX hbl hbA hS (vp_in_nI (n := 4) (N := 6) (by decide) (by decide)) dL_law_273 ?_
  refine ow_topi (y := xs 4) (congrArg xs (by decide)) ?_
  refine lv_aload_n hx hb dL_law_274 rfl (lv_at hl 1 rfl) ?_
  refine lv_iload hx hb dL_law_275 (lv_at hl 5 rfl) ?_
  refine lv_iconst (v := 5) hx hb dL_law_277 (by decide) ?_
  refine lv_iadd hx hb dL_law_278 ?_
  refine ow_topi (y := 5) (by decide) ?_
  refine va_sld hx hb hX hbl hbA hS (vp_in_nI (n := 5) (N := 6) (by decide) (by decide)) dL_law_279 ?_
  refine ow_topi (y := xs 5) (congrArg xs (by decide)) ?_
  have hPc := hP.sub (ws' := [(y, .inr (16, v.1)), ((v.2 0), .inl (cB, 400, .inl (fun _ => 0)))]) [0, 1] rfl
  have hDc := hD.sub (ws' := [(y, .inr (16, v.1)), ((v.2 0), .inl (cB, 400, .inl (fun _ => 0)))]) [0, 1] (by decide) rfl
  have hFc := va_free (wc := [(y, .inr (16, v.1)), ((v.2 0), .inl (cB, 400, .inl (fun _ => 0)))]) hD hS hA [0, 1] rfl
  refine va_calli (va_runV (As := [.int (xs 1), .int (xs 2), .int (xs 3), .int (xs 4), .int (xs 5)]) (rest := []) ⟨hx, hb, hml, hown, hts⟩ (kf_X13_feed l dC dI cI cB cJ cZ y H.size v.1 hv.1 (v.2 0) (fun _ => 0) (hv.2.at 21 rfl) (hv.2.at 23 rfl) (xs 1) (xs 2) (xs 3) (xs 4) (xs 5)) (cwV 5 hts gw_X13_feed rfl rfl rfl (by decide +kernel) ⟨(Nat.le_of_ble_eq_true rfl), (Nat.le_of_ble_eq_true rfl)⟩) ⟨fun a U g mk q => by obtain ⟨q0, q1, qP, qK, qD⟩ := q; exact ⟨q0, q1, qP, va_K.moved (u := U) (U := U.calling g mk a) (Vm.Alike.refl U.vm) qK, qD⟩, va_recv hK hPc (ci := 16) (q0 := 0) rfl rfl, fun U hU hW => ⟨rfl, by rw [hU], by rw [hU]; exact hPc, va_K.moved hW.alike hK, hDc.weaken (fun _ _ _ _ => trivial)⟩⟩ rfl rfl hl.1 rfl (lv_room (Nat.le_of_ble_eq_true rfl)) dL_law_280 ⟨(Nat.le_of_ble_eq_true rfl), (Nat.le_of_ble_eq_true rfl)⟩) hS (fun q _ h => hFc q h) hFc (fun r9 g9 t H1 locs ht hvm hw hB hz1 hk1 hS => ?_)
  obtain ⟨hP1, hD1⟩ := hB
  rw [ht] at hP1
  obtain ⟨hP, hD⟩ := va_join (wr := [(qo, .inl (cJ, 1, .inr (.inl g7)))]) (w1 := [(y, .inr (16, g9))]) hP hD [0, 1] [2] rfl rfl (by decide) (by decide) hk1 hFc hP1 hD1
  generalize H1 = H at hP hS ⊢
  have hP : va_P (dC, dI) vwCl [(qo, .inl (cJ, 1, .inr (.inl g7))), (y, .inr (16, g9))] H := hP
  have hD : va_D (fun q : Nat => s.heap.size ≤ q) [(qo, .inl (cJ, 1, .inr (.inl g7))), (y, .inr (16, g9))] := hD
  obtain ⟨hr9, hg0⟩ := hw
  subst hr9
  refine lv_istore (lv' := [(6, .int 20), (5, .int 0), (0, .ref b), (1, .ref x), (2, .ref y), (3, .ref qo), (4, .int 0)]) hx hb dL_law_283 hl (by decide) rfl (fun ls hl => ?_)
  refine lv_aload_n hx hb dL_law_285 rfl (lv_at hl 4 rfl) ?_
  have hPc := hP.sub (ws' := [(y, .inr (16, g9))]) [1] rfl
  refine va_calli (va_runV (As := []) (rest := []) ⟨hx, hb, hml, hown, hts⟩ (kf_X13_thrownN l dC dI cI cB cJ cZ y g9 0 hg0) (cwV 0 hts gw_X13_thrown rfl rfl rfl (by decide +kernel) ⟨(Nat.le_of_ble_eq_true rfl), (Nat.le_of_ble_eq_true rfl)⟩) ⟨fun a U g mk q => by obtain ⟨q0, qP, qK⟩ := q; exact ⟨q0, qP, va_K.moved (u := U) (U := U.calling g mk a) (Vm.Alike.refl U.vm) qK⟩, va_recv hK hPc (ci := 16) (q0 := 0) rfl rfl, fun U hU hW => ⟨rfl, by rw [hU]; exact hPc, va_K.moved hW.alike hK⟩⟩ rfl rfl hl.1 rfl (lv_room (Nat.le_of_ble_eq_true rfl)) dL_law_286 ⟨(Nat.le_of_ble_eq_true rfl), (Nat.le_of_ble_eq_true rfl)⟩) hS (fun q _ h => h.elim) (fun q h => h.elim) (fun r8 un t H1 locs ht hvm hw8 hB hz1 hk1 hS => ?_)
  obtain rfl : r8 = 0 := hw8
  have hP := hP.kept (fun k9 x9 h9 => hk1 x9.1 ((hP k9 x9 h9).lt) id)
  generalize H1 = H at hP hS ⊢
  refine lv_iload hx hb dL_law_289 (lv_at hl 1 rfl) ?_
  refine lv_icmp_eq (tgt := 296) hx hb dL_law_291 (by decide) (fun _ => ?_) (fun c9 => absurd (rfl) c9)
  refine lv_iload hx hb dL_law_296 (lv_at hl 1 rfl) ?_
  refine lv_if_ne (tgt := 313) hx hb dL_law_298 (by decide) (fun c9 => absurd c9 (not_not_intro rfl)) (fun _ => ?_)
  refine lv_aload_n hx hb dL_law_301 rfl (lv_at hl 5 rfl) ?_
  refine lv_iconst (v := 0) hx hb dL_law_302 (by decide) ?_
  refine va_lald hx hb hK hP 0 2 rfl rfl (vp_in_nI (n := 0) (N := 1) (by decide) (by decide)) dL_law_303 ?_
  refine lv_topl (fun xl exl => ?_)
  have exl : xl = 20 := by first | exact exl.trans hg7 | exact exl.symm.trans hg7
  subst exl
  refine lv_iload hx hb dL_law_304 (lv_at hl 0 rfl) ?_
  refine lv_i2l hx hb dL_law_306 rfl ?_
  refine W.lcmp hx hb dL_law_307 ?_
  refine lv_if_eq (tgt := 313) hx hb dL_law_308 (by decide) (fun _ => ?_) (fun c9 => absurd (by decide) c9)
  refine lv_goto (tgt := 2616) hx hb dL_law_313 (by decide) ?_
  exact lc_fin C0 hS (lv_sub hl [2, 6] rfl) (Nat.le_of_ble_eq_true rfl) (Nat.le_of_ble_eq_true rfl)
theorem dL_law_316 : decode cL_law 316 = .ok (.aload_n 1, 1) := by decide +kernel
theorem dL_law_317 : decode cL_law 317 = .ok (.aload_n 0, 1) := by decide +kernel
theorem dL_law_318 : decode cL_law 318 = .ok (.iload 4, 2) := by decide +kernel
theorem dL_law_320 : decode cL_law 320 = .ok (.iconst 1, 1) := by decide +kernel
theorem dL_law_321 : decode cL_law 321 = .ok (.iadd, 1) := by decide +kernel
theorem dL_law_322 : decode cL_law 322 = .ok (.iaload, 1) := by decide +kernel
theorem dL_law_323 : decode cL_law 323 = .ok (.invokestatic 140, 3) := by decide +kernel
theorem dL_law_326 : decode cL_law 326 = .ok (.istore 5, 2) := by decide +kernel
theorem dL_law_328 : decode cL_law 328 = .ok (.aload_n 2, 1) := by decide +kernel
theorem dL_law_329 : decode cL_law 329 = .ok (.aload_n 0, 1) := by decide +kernel
theorem dL_law_330 : decode cL_law 330 = .ok (.iload 4, 2) := by decide +kernel
theorem dL_law_332 : decode cL_law 332 = .ok (.iconst 1, 1) := by decide +kernel
theorem dL_law_333 : decode cL_law 333 = .ok (.iadd, 1) := by decide +kernel
theorem dL_law_334 : decode cL_law 334 = .ok (.iaload, 1) := by decide +kernel
theorem dL_law_335 : decode cL_law 335 = .ok (.invokevirtual 143, 3) := by decide +kernel
theorem dL_law_338 : decode cL_law 338 = .ok (.aload_n 2, 1) := by decide +kernel
theorem dL_law_339 : decode cL_law 339 = .ok (.invokevirtual 137, 3) := by decide +kernel
theorem dL_law_342 : decode cL_law 342 = .ok (.iload 5, 2) := by decide +kernel
theorem dL_law_344 : decode cL_law 344 = .ok (.if_icmp .eq 5, 3) := by decide +kernel
theorem dL_law_347 : decode cL_law 347 = .ok (.iconst 0, 1) := by decide +kernel
theorem dL_law_348 : decode cL_law 348 = .ok (.ireturn, 1) := by decide +kernel
theorem dL_law_349 : decode cL_law 349 = .ok (.goto 2267, 3) := by decide +kernel
set_option maxHeartbeats 4000000 in
set_option maxRecDepth 100000 in
theorem lc_end {p : Program} {l : Launch} {e : Env} {s : State} {m : MethodId} {below : List Frame} {meth : Method} {c : Code} {b : Nat} {xs : Nat → Int32} {dC : Nat → ClassId} {dI : Nat → Nat → Nat} {cI cB cJ cZ : ClassId} {sa : Nat → Nat} (C0 : lw_At p s m meth c b 6 xs) (hG : ow_LG l s dC dI cI cB cJ cZ sa) {x y qo : Nat} {u : Nat → Nat} {v : List Value × (Nat → Nat)} (hv : kn_X13_init v) {H : Heap} {locs : List Loc} {ls : Array Slot} (hP : va_P (dC, dI) vwCl (wd_X11_init cI cB cJ x u ++ (wd_X13_init cI cB y v ++ [(qo, .inl (cJ, 1, .inr (.inl (fun _ => 0))))])) H) (hD : va_D (fun q : Nat => s.heap.size ≤ q) (wd_X11_init cI cB cJ x u ++ (wd_X13_init cI cB y v ++ [(qo, .inl (cJ, 1, .inr (.inl (fun _ => 0))))]))) (hS : va_S (fun q : Nat => s.heap.size ≤ q) s.heap H locs) (hl : lv_has ls 8 [(0, .ref b), (1, .ref x), (2, .ref y), (3, .ref qo), (4, .int 0)]) : W p l e room_1 s m #[Value.ref b] below meth c H locs 694 1334208 (lw_Z below #[Value.ref b] s) (F0 m 316 ls []) := by
  obtain ⟨hx, hb, hr, hml, hown, hts, hX, hbl, hlocks, hgv⟩ := id C0
  have hown : s.vm.findClass RL = some m.cls := hown
  have hA : ∀ q : Nat, s.heap.size ≤ q → (fun q : Nat => s.heap.size ≤ q) q := fun _ h => h
  have hbA : ¬ (fun q : Nat => s.heap.size ≤ q) b := Nat.not_le.mpr hbl
  have hK := hG.2.1
  have hP := hP.sub (ws' := [(x, .inr (14, [.ref (u 0), .ref (u 1), .ref (u 2), .ref (u 3), .ref (u 4), .ref (u 5), .ref (u 6), .ref (u 7), .ref (u 8), .ref (u 9), .ref (u 10), .ref (u 11), .ref (u 12), .ref (u 13), .ref (u 14), .ref (u 15), .ref (u 16), .ref (u 17), .ref (u 18)])), ((u 7), .inr (12, [.int 0, .ref (u 63), .ref (u 64), .ref (u 65), .int 0, .int 0])), (y, .inr (16, v.1)), (qo, .inl (cJ, 1, .inr (.inl (fun _ => 0))))]) [0, 51, 60, 71] rfl
  have hD := hD.sub (ws' := [(x, .inr (14, [.ref (u 0), .ref (u 1), .ref (u 2), .ref (u 3), .ref (u 4), .ref (u 5), .ref (u 6), .ref (u 7), .ref (u 8), .ref (u 9), .ref (u 10), .ref (u 11), .ref (u 12), .ref (u 13), .ref (u 14), .ref (u 15), .ref (u 16), .ref (u 17), .ref (u 18)])), ((u 7), .inr (12, [.int 0, .ref (u 63), .ref (u 64), .ref (u 65), .int 0, .int 0])), (y, .inr (16, v.1)), (qo, .inl (cJ, 1, .inr (.inl (fun _ => 0))))]) [0, 51, 60, 71] (by decide) rfl
  refine lv_aload_n hx hb dL_law_316 rfl (lv_at hl 1 rfl) ?_
  refine lv_aload_n hx hb dL_law_317 rfl (lv_at hl 0 rfl) ?_
  refine lv_iload hx hb dL_law_318 (lv_at hl 4 rfl) ?_
  refine lv_iconst (v := 1) hx hb dL_law_320 (by decide) ?_
  refine lv_iadd hx hb dL_law_321 ?_
  refine ow_topi (y := 1) (by decide) ?_
  refine va_sld hx hb hX hbl hbA hS (vp_in_nI (n := 1) (N := 6) (by decide) (by decide)) dL_law_322 ?_
  refine ow_topi (y := xs 1) (congrArg xs (by decide)) ?_
  have hPc := hP.sub (ws' := [(x, .inr (14, [.ref (u 0), .ref (u 1), .ref (u 2), .ref (u 3), .ref (u 4), .ref (u 5), .ref (u 6), .ref (u 7), .ref (u 8), .ref (u 9), .ref (u 10), .ref (u 11), .ref (u 12), .ref (u 13), .ref (u 14), .ref (u 15), .ref (u 16), .ref (u 17), .ref (u 18)])), ((u 7), .inr (12, [.int 0, .ref (u 63), .ref (u 64), .ref (u 65), .int 0, .int 0]))]) [0, 1] rfl
  have hDc := hD.sub (ws' := [(x, .inr (14, [.ref (u 0), .ref (u 1), .ref (u 2), .ref (u 3), .ref (u 4), .ref (u 5), .ref (u 6), .ref (u 7), .ref (u 8), .ref (u 9), .ref (u 10), .ref (u 11), .ref (u 12), .ref (u 13), .ref (u 14), .ref (u 15), .ref (u 16), .ref (u 17), .ref (u 18)])), ((u 7), .inr (12, [.int 0, .ref (u 63), .ref (u 64), .ref (u 65), .int 0, .int 0]))]) [0, 1] (by decide) rfl
  have hFc := va_free (wc := [(x, .inr (14, [.ref (u 0), .ref (u 1), .ref (u 2), .ref (u 3), .ref (u 4), .ref (u 5), .ref (u 6), .ref (u 7), .ref (u 8), .ref (u 9), .ref (u 10), .ref (u 11), .ref (u 12), .ref (u 13), .ref (u 14), .ref (u 15), .ref (u 16), .ref (u 17), .ref (u 18)])), ((u 7), .inr (12, [.int 0, .ref (u 63), .ref (u 64), .ref (u 65), .int 0, .int 0]))]) hD hS hA [0, 1] rfl
  refine vx_calli (vx_runSX (As := [.ref x, .int (xs 1)]) (rest := []) ⟨hx, hb, hml, hown, hts⟩ (kf_L_end l dC dI cI cB cJ cZ hG.1 x (sa 3) H.size u (xs 1)) (vx_cwSW 2 hts gw_L_end rfl rfl rfl (by decide +kernel) ⟨(Nat.le_of_ble_eq_true rfl), (Nat.le_of_ble_eq_true rfl)⟩) ⟨fun a U g mk q => by obtain ⟨q0, q1, qP, qK, qD, qT⟩ := q; exact ⟨q0, q1, qP, va_K.moved (u := U) (U := U.calling g mk a) (Vm.Alike.refl U.vm) qK, qD, qT.same rfl rfl⟩, fun U hU hW => ⟨rfl, by rw [hU], by rw [hU]; exact hPc, va_K.moved hW.alike hK, hDc.weaken (fun _ _ _ _ => trivial), (hG.2.2.2.2.2.2.1).to hS hW hU (fun q h => hFc q h)⟩⟩ rfl rfl hl.1 rfl (lv_room (Nat.le_of_ble_eq_true rfl)) dL_law_323 ⟨(Nat.le_of_ble_eq_true rfl), (Nat.le_of_ble_eq_true rfl)⟩) hS (fun q _ h => hFc q h) hFc (fun q _ h => hFc q h) (fun E ce q9 u9 t H1 locs1 ht hvm hp hB hz hk hS hce hcv hcl => hp.elim) (fun r7 g7 t H1 locs ht hvm hw hB hz1 hk1 hS => ?_)
  obtain ⟨hP, hD⟩ := va_join (wr := [(y, .inr (16, v.1)), (qo, .inl (cJ, 1, .inr (.inl (fun _ => 0))))]) (w1 := []) hP hD [0, 1] [2, 3] rfl rfl (by decide) (by decide) hk1 hFc (fun k q h => by simp at h) ⟨fun i j p q h => by simp at h, fun k q h => by simp at h⟩
  generalize H1 = H at hP hS ⊢
  have hP : va_P (dC, dI) vwCl [(y, .inr (16, v.1)), (qo, .inl (cJ, 1, .inr (.inl (fun _ => 0))))] H := hP
  have hD : va_D (fun q : Nat => s.heap.size ≤ q) [(y, .inr (16, v.1)), (qo, .inl (cJ, 1, .inr (.inl (fun _ => 0))))] := hD
  refine W.widen (k := 695) (n := 1334214) (Nat.le_of_ble_eq_true rfl) (Nat.le_of_ble_eq_true rfl) ?_
  subst hw
  refine lv_istore (lv' := [(5, .int (if xs 1 = 0 then 0 else 1)), (0, .ref b), (1, .ref x), (2, .ref y), (3, .ref qo), (4, .int 0)]) hx hb dL_law_326 hl (by decide) rfl (fun ls hl => ?_)
  refine lv_aload_n hx hb dL_law_328 rfl (lv_at hl 3 rfl) ?_
  refine lv_aload_n hx hb dL_law_329 rfl (lv_at hl 1 rfl) ?_
  refine lv_iload hx hb dL_law_330 (lv_at hl 5 rfl) ?_
  refine lv_iconst (v := 1) hx hb dL_law_332 (by decide) ?_
  refine lv_iadd hx hb dL_law_333 ?_
  refine ow_topi (y := 1) (by decide) ?_
  refine va_sld hx hb hX hbl hbA hS (vp_in_nI (n := 1) (N := 6) (by decide) (by decide)) dL_law_334 ?_
  refine ow_topi (y := xs 1) (congrArg xs (by decide)) ?_
  have hPc := hP.sub (ws' := [(y, .inr (16, v.1))]) [0] rfl
  have hDc := hD.sub (ws' := [(y, .inr (16, v.1))]) [0] (by decide) rfl
  have hFc := va_free (wc := [(y, .inr (16, v.1))]) hD hS hA [0] rfl
  refine va_callv (va_runV (As := [.int (xs 1)]) (rest := []) ⟨hx, hb, hml, hown, hts⟩ (kf_X13_end l dC dI cI cB cJ cZ y H.size v.1 hv.1 (hv.2.at 23 rfl) (xs 1)) (cwV 1 hts gw_X13_end rfl rfl rfl (by decide +kernel) ⟨(Nat.le_of_ble_eq_true rfl), (Nat.le_of_ble_eq_true rfl)⟩) ⟨fun a U g mk q => by obtain ⟨q0, q1, qP, qK, qD⟩ := q; exact ⟨q0, q1, qP, va_K.moved (u := U) (U := U.calling g mk a) (Vm.Alike.refl U.vm) qK, qD⟩, va_recv hK hPc (ci := 16) (q0 := 0) rfl rfl, fun U hU hW => ⟨rfl, by rw [hU], by rw [hU]; exact hPc, va_K.moved hW.alike hK, hDc.weaken (fun _ _ _ _ => trivial)⟩⟩ rfl rfl hl.1 rfl (lv_room (Nat.le_of_ble_eq_true rfl)) dL_law_335 ⟨(Nat.le_of_ble_eq_true rfl), (Nat.le_of_ble_eq_true rfl)⟩) hS (fun q _ h => hFc q h) hFc (fun g9 t H1 locs ht hvm hw hB hz1 hk1 hS => ?_)
  obtain ⟨hP1, hD1⟩ := hB
  rw [ht] at hP1
  obtain ⟨hP, hD⟩ := va_join (wr := [(qo, .inl (cJ, 1, .inr (.inl (fun _ => 0))))]) (w1 := [(y, .inr (16, g9))]) hP hD [0] [1] rfl rfl (by decide) (by decide) hk1 hFc hP1 hD1
  generalize H1 = H at hP hS ⊢
  have hP : va_P (dC, dI) vwCl [(qo, .inl (cJ, 1, .inr (.inl (fun _ => 0)))), (y, .inr (16, g9))] H := hP
  have hD : va_D (fun q : Nat => s.heap.size ≤ q) [(qo, .inl (cJ, 1, .inr (.inl (fun _ => 0)))), (y, .inr (16, g9))] := hD
  have hg0 := hw
  refine lv_aload_n hx hb dL_law_338 rfl (lv_at hl 3 rfl) ?_
  have hPc := hP.sub (ws' := [(y, .inr (16, g9))]) [1] rfl
  refine va_calli (va_runV (As := []) (rest := []) ⟨hx, hb, hml, hown, hts⟩ (kf_X13_thrownN l dC dI cI cB cJ cZ y g9 (if xs 1 = 0 then 0 else 1) hg0) (cwV 0 hts gw_X13_thrown rfl rfl rfl (by decide +kernel) ⟨(Nat.le_of_ble_eq_true rfl), (Nat.le_of_ble_eq_true rfl)⟩) ⟨fun a U g mk q => by obtain ⟨q0, qP, qK⟩ := q; exact ⟨q0, qP, va_K.moved (u := U) (U := U.calling g mk a) (Vm.Alike.refl U.vm) qK⟩, va_recv hK hPc (ci := 16) (q0 := 0) rfl rfl, fun U hU hW => ⟨rfl, by rw [hU]; exact hPc, va_K.moved hW.alike hK⟩⟩ rfl rfl hl.1 rfl (lv_room (Nat.le_of_ble_eq_true rfl)) dL_law_339 ⟨(Nat.le_of_ble_eq_true rfl), (Nat.le_of_ble_eq_true rfl)⟩) hS (fun q _ h => h.elim) (fun q h => h.elim) (fun r8 un t H1 locs ht hvm hw8 hB hz1 hk1 hS => ?_)
  obtain rfl : r8 = (if xs 1 = 0 then 0 else 1) := hw8
  have hP := hP.kept (fun k9 x9 h9 => hk1 x9.1 ((hP k9 x9 h9).lt) id)
  generalize H1 = H at hP hS ⊢
  refine lv_iload hx hb dL_law_342 (lv_at hl 0 rfl) ?_
  refine lv_icmp_eq (tgt := 349) hx hb dL_law_344 (by decide) (fun _ => ?_) (fun c9 => absurd (rfl) c9)
  refine lv_goto (tgt := 2616) hx hb dL_law_349 (by decide) ?_
  exact lc_fin C0 hS (lv_sub hl [1, 5] rfl) (Nat.le_of_ble_eq_true rfl) (Nat.le_of_ble_eq_true rfl)
theorem dL_law_352 : decode cL_law 352 = .ok (.aload_n 1, 1) := by decide +kernel
theorem dL_law_353 : decode cL_law 353 = .ok (.aload_n 3, 1) := by decide +kernel
theorem dL_law_354 : decode cL_law 354 = .ok (.invokestatic 144, 3) := by decide +kernel
theorem dL_law_357 : decode cL_law 357 = .ok (.istore 5, 2) := by decide +kernel
theorem dL_law_359 : decode cL_law 359 = .ok (.aload_n 2, 1) := by decide +kernel
theorem dL_law_360 : decode cL_law 360 = .ok (.invokevirtual 147, 3) := by decide +kernel
theorem dL_law_363 : decode cL_law 363 = .ok (.istore 6, 2) := by decide +kernel
theorem dL_law_365 : decode cL_law 365 = .ok (.aload_n 2, 1) := by decide +kernel
theorem dL_law_366 : decode cL_law 366 = .ok (.invokevirtual 137, 3) := by decide +kernel
theorem dL_law_369 : decode cL_law 369 = .ok (.iload 5, 2) := by decide +kernel
theorem dL_law_371 : decode cL_law 371 = .ok (.if_icmp .eq 5, 3) := by decide +kernel
theorem dL_law_374 : decode cL_law 374 = .ok (.iconst 0, 1) := by decide +kernel
theorem dL_law_375 : decode cL_law 375 = .ok (.ireturn, 1) := by decide +kernel
theorem dL_law_376 : decode cL_law 376 = .ok (.iload 5, 2) := by decide +kernel
theorem dL_law_378 : decode cL_law 378 = .ok (.ifCond .ne 15, 3) := by decide +kernel
theorem dL_law_381 : decode cL_law 381 = .ok (.aload_n 3, 1) := by decide +kernel
theorem dL_law_382 : decode cL_law 382 = .ok (.iconst 0, 1) := by decide +kernel
theorem dL_law_383 : decode cL_law 383 = .ok (.laload, 1) := by decide +kernel
theorem dL_law_384 : decode cL_law 384 = .ok (.iload 6, 2) := by decide +kernel
theorem dL_law_386 : decode cL_law 386 = .ok (.i2l, 1) := by decide +kernel
theorem dL_law_387 : decode cL_law 387 = .ok (.lcmp, 1) := by decide +kernel
theorem dL_law_388 : decode cL_law 388 = .ok (.ifCond .eq 5, 3) := by decide +kernel
theorem dL_law_391 : decode cL_law 391 = .ok (.iconst 0, 1) := by decide +kernel
theorem dL_law_392 : decode cL_law 392 = .ok (.ireturn, 1) := by decide +kernel
theorem dL_law_393 : decode cL_law 393 = .ok (.goto 2223, 3) := by decide +kernel
set_option maxHeartbeats 4000000 in
set_option maxRecDepth 100000 in
theorem lc_diagram {p : Program} {l : Launch} {e : Env} {s : State} {m : MethodId} {below : List Frame} {meth : Method} {c : Code} {b : Nat} {xs : Nat → Int32} {dC : Nat → ClassId} {dI : Nat → Nat → Nat} {cI cB cJ cZ : ClassId} {sa : Nat → Nat} (C0 : lw_At p s m meth c b 6 xs) (hG : ow_LG l s dC dI cI cB cJ cZ sa) {x y qo : Nat} {u : Nat → Nat} {v : List Value × (Nat → Nat)} (hv : kn_X13_init v) {H : Heap} {locs : List Loc} {ls : Array Slot} (hP : va_P (dC, dI) vwCl (wd_X11_init cI cB cJ x u ++ (wd_X13_init cI cB y v ++ [(qo, .inl (cJ, 1, .inr (.inl (fun _ => 0))))])) H) (hD : va_D (fun q : Nat => s.heap.size ≤ q) (wd_X11_init cI cB cJ x u ++ (wd_X13_init cI cB y v ++ [(qo, .inl (cJ, 1, .inr (.inl (fun _ => 0))))]))) (hS : va_S (fun q : Nat => s.heap.size ≤ q) s.heap H locs) (hl : lv_has ls 8 [(0, .ref b), (1, .ref x), (2, .ref y), (3, .ref qo), (4, .int 0)]) : W p l e room_1 s m #[Value.ref b] below meth c H locs 694 1334208 (lw_Z below #[Value.ref b] s) (F0 m 352 ls []) := by
  obtain ⟨hx, hb, hr, hml, hown, hts, hX, hbl, hlocks, hgv⟩ := id C0
  have hown : s.vm.findClass RL = some m.cls := hown
  have hA : ∀ q : Nat, s.heap.size ≤ q → (fun q : Nat => s.heap.size ≤ q) q := fun _ h => h
  have hbA : ¬ (fun q : Nat => s.heap.size ≤ q) b := Nat.not_le.mpr hbl
  have hK := hG.2.1
  have hP := hP.sub (ws' := [(x, .inr (14, [.ref (u 0), .ref (u 1), .ref (u 2), .ref (u 3), .ref (u 4), .ref (u 5), .ref (u 6), .ref (u 7), .ref (u 8), .ref (u 9), .ref (u 10), .ref (u 11), .ref (u 12), .ref (u 13), .ref (u 14), .ref (u 15), .ref (u 16), .ref (u 17), .ref (u 18)])), ((u 0), .inr (6, [.ref (u 19), .ref (u 20), .ref (u 21), .ref (u 22), .int 0])), ((u 19), .inl (cB, 1200, .inl (fun _ => 0))), ((u 20), .inl (cB, 40, .inl (fun _ => 0))), ((u 21), .inl (cB, 40, .inl (fun _ => 0))), ((u 3), .inr (10, [.ref (u 31), .ref (u 32), .ref (u 33), .ref (u 34), .ref (u 35), .ref (u 36), .ref (u 37), .int 0, .int 0, .int 0, .int 0])), ((u 36), .inl (cI, 24, .inl (fun _ => 0))), ((u 5), .inr (7, [.ref (u 38), .int 0, .ref (u 39), .ref (u 40), .ref (u 41), .ref (u 42), .ref (u 43), .ref (u 44)])), ((u 38), .inl (cI, 48, .inl (fun _ => 0))), ((u 6), .inr (5, [.ref (u 45), .ref (u 46), .ref (u 47), .ref (u 48), .ref (u 49), .ref (u 50)])), ((u 45), .inr (6, [.ref (u 51), .ref (u 52), .ref (u 53), .ref (u 54), .int 0])), ((u 51), .inl (cB, 30, .inl (fun _ => 0))), ((u 52), .inl (cB, 1, .inl (fun _ => 0))), ((u 53), .inl (cB, 1, .inl (fun _ => 0))), ((u 47), .inr (6, [.ref (u 59), .ref (u 60), .ref (u 61), .ref (u 62), .int 0])), ((u 7), .inr (12, [.int 0, .ref (u 63), .ref (u 64), .ref (u 65), .int 0, .int 0])), ((u 64), .inl (cI, 100, .inl (fun _ => 0))), ((u 65), .inl (cI, 24, .inl (fun _ => 0))), (y, .inr (16, v.1)), ((v.2 1), .inl (cI, 1280, .inl (fun _ => 0))), ((v.2 2), .inr (15, [.int 0, .int 0, .ref (v.2 3), .ref (v.2 25), .ref (v.2 26), .ref (v.2 27), .ref (v.2 28), .ref (v.2 29), .ref (v.2 30), .ref (v.2 31), .ref (v.2 4), .ref (v.2 5), .int 0, .ref (v.2 32), .ref (v.2 33), .int 0])), ((v.2 3), .inl (cI, 40, .inl (fun _ => 0))), ((v.2 4), .inl (cI, 40, .inl (fun _ => 0))), ((v.2 5), .inl (cI, 40, .inl (fun _ => 0))), (qo, .inl (cJ, 1, .inr (.inl (fun _ => 0))))]) [0, 1, 2, 3, 4, 16, 22, 24, 25, 32, 33, 34, 35, 36, 43, 51, 53, 54, 60, 62, 63, 64, 65, 66, 71] rfl
  have hD := hD.sub (ws' := [(x, .inr (14, [.ref (u 0), .ref (u 1), .ref (u 2), .ref (u 3), .ref (u 4), .ref (u 5), .ref (u 6), .ref (u 7), .ref (u 8), .ref (u 9), .ref (u 10), .ref (u 11), .ref (u 12), .ref (u 13), .ref (u 14), .ref (u 15), .ref (u 16), .ref (u 17), .ref (u 18)])), ((u 0), .inr (6, [.ref (u 19), .ref (u 20), .ref (u 21), .ref (u 22), .int 0])), ((u 19), .inl (cB, 1200, .inl (fun _ => 0))), ((u 20), .inl (cB, 40, .inl (fun _ => 0))), ((u 21), .inl (cB, 40, .inl (fun _ => 0))), ((u 3), .inr (10, [.ref (u 31), .ref (u 32), .ref (u 33), .ref (u 34), .ref (u 35), .ref (u 36), .ref (u 37), .int 0, .int 0, .int 0, .int 0])), ((u 36), .inl (cI, 24, .inl (fun _ => 0))), ((u 5), .inr (7, [.ref (u 38), .int 0, .ref (u 39), .ref (u 40), .ref (u 41), .ref (u 42), .ref (u 43), .ref (u 44)])), ((u 38), .inl (cI, 48, .inl (fun _ => 0))), ((u 6), .inr (5, [.ref (u 45), .ref (u 46), .ref (u 47), .ref (u 48), .ref (u 49), .ref (u 50)])), ((u 45), .inr (6, [.ref (u 51), .ref (u 52), .ref (u 53), .ref (u 54), .int 0])), ((u 51), .inl (cB, 30, .inl (fun _ => 0))), ((u 52), .inl (cB, 1, .inl (fun _ => 0))), ((u 53), .inl (cB, 1, .inl (fun _ => 0))), ((u 47), .inr (6, [.ref (u 59), .ref (u 60), .ref (u 61), .ref (u 62), .int 0])), ((u 7), .inr (12, [.int 0, .ref (u 63), .ref (u 64), .ref (u 65), .int 0, .int 0])), ((u 64), .inl (cI, 100, .inl (fun _ => 0))), ((u 65), .inl (cI, 24, .inl (fun _ => 0))), (y, .inr (16, v.1)), ((v.2 1), .inl (cI, 1280, .inl (fun _ => 0))), ((v.2 2), .inr (15, [.int 0, .int 0, .ref (v.2 3), .ref (v.2 25), .ref (v.2 26), .ref (v.2 27), .ref (v.2 28), .ref (v.2 29), .ref (v.2 30), .ref (v.2 31), .ref (v.2 4), .ref (v.2 5), .int 0, .ref (v.2 32), .ref (v.2 33), .int 0])), ((v.2 3), .inl (cI, 40, .inl (fun _ => 0))), ((v.2 4), .inl (cI, 40, .inl (fun _ => 0))), ((v.2 5), .inl (cI, 40, .inl (fun _ => 0))), (qo, .inl (cJ, 1, .inr (.inl (fun _ => 0))))]) [0, 1, 2, 3, 4, 16, 22, 24, 25, 32, 33, 34, 35, 36, 43, 51, 53, 54, 60, 62, 63, 64, 65, 66, 71] (by decide) rfl
  refine lv_aload_n hx hb dL_law_352 rfl (lv_at hl 1 rfl) ?_
  refine lv_aload_n hx hb dL_law_353 rfl (lv_at hl 3 rfl) ?_
  have hPc := hP.sub (ws' := [(x, .inr (14, [.ref (u 0), .ref (u 1), .ref (u 2), .ref (u 3), .ref (u 4), .ref (u 5), .ref (u 6), .ref (u 7), .ref (u 8), .ref (u 9), .ref (u 10), .ref (u 11), .ref (u 12), .ref (u 13), .ref (u 14), .ref (u 15), .ref (u 16), .ref (u 17), .ref (u 18)])), ((u 7), .inr (12, [.int 0, .ref (u 63), .ref (u 64), .ref (u 65), .int 0, .int 0])), ((u 64), .inl (cI, 100, .inl (fun _ => 0))), ((u 65), .inl (cI, 24, .inl (fun _ => 0))), ((u 3), .inr (10, [.ref (u 31), .ref (u 32), .ref (u 33), .ref (u 34), .ref (u 35), .ref (u 36), .ref (u 37), .int 0, .int 0, .int 0, .int 0])), ((u 5), .inr (7, [.ref (u 38), .int 0, .ref (u 39), .ref (u 40), .ref (u 41), .ref (u 42), .ref (u 43), .ref (u 44)])), ((u 38), .inl (cI, 48, .inl (fun _ => 0))), ((u 36), .inl (cI, 24, .inl (fun _ => 0))), ((u 0), .inr (6, [.ref (u 19), .ref (u 20), .ref (u 21), .ref (u 22), .int 0])), ((u 19), .inl (cB, 1200, .inl (fun _ => 0))), ((u 20), .inl (cB, 40, .inl (fun _ => 0))), ((u 21), .inl (cB, 40, .inl (fun _ => 0))), ((u 6), .inr (5, [.ref (u 45), .ref (u 46), .ref (u 47), .ref (u 48), .ref (u 49), .ref (u 50)])), ((u 45), .inr (6, [.ref (u 51), .ref (u 52), .ref (u 53), .ref (u 54), .int 0])), ((u 51), .inl (cB, 30, .inl (fun _ => 0))), ((u 52), .inl (cB, 1, .inl (fun _ => 0))), ((u 53), .inl (cB, 1, .inl (fun _ => 0))), ((u 47), .inr (6, [.ref (u 59), .ref (u 60), .ref (u 61), .ref (u 62), .int 0])), (qo, .inl (cJ, 1, .inr (.inl (fun _ => 0))))]) [0, 15, 16, 17, 5, 7, 8, 6, 1, 2, 3, 4, 9, 10, 11, 12, 13, 14, 24] rfl
  have hDc := hD.sub (ws' := [(x, .inr (14, [.ref (u 0), .ref (u 1), .ref (u 2), .ref (u 3), .ref (u 4), .ref (u 5), .ref (u 6), .ref (u 7), .ref (u 8), .ref (u 9), .ref (u 10), .ref (u 11), .ref (u 12), .ref (u 13), .ref (u 14), .ref (u 15), .ref (u 16), .ref (u 17), .ref (u 18)])), ((u 7), .inr (12, [.int 0, .ref (u 63), .ref (u 64), .ref (u 65), .int 0, .int 0])), ((u 64), .inl (cI, 100, .inl (fun _ => 0))), ((u 65), .inl (cI, 24, .inl (fun _ => 0))), ((u 3), .inr (10, [.ref (u 31), .ref (u 32), .ref (u 33), .ref (u 34), .ref (u 35), .ref (u 36), .ref (u 37), .int 0, .int 0, .int 0, .int 0])), ((u 5), .inr (7, [.ref (u 38), .int 0, .ref (u 39), .ref (u 40), .ref (u 41), .ref (u 42), .ref (u 43), .ref (u 44)])), ((u 38), .inl (cI, 48, .inl (fun _ => 0))), ((u 36), .inl (cI, 24, .inl (fun _ => 0))), ((u 0), .inr (6, [.ref (u 19), .ref (u 20), .ref (u 21), .ref (u 22), .int 0])), ((u 19), .inl (cB, 1200, .inl (fun _ => 0))), ((u 20), .inl (cB, 40, .inl (fun _ => 0))), ((u 21), .inl (cB, 40, .inl (fun _ => 0))), ((u 6), .inr (5, [.ref (u 45), .ref (u 46), .ref (u 47), .ref (u 48), .ref (u 49), .ref (u 50)])), ((u 45), .inr (6, [.ref (u 51), .ref (u 52), .ref (u 53), .ref (u 54), .int 0])), ((u 51), .inl (cB, 30, .inl (fun _ => 0))), ((u 52), .inl (cB, 1, .inl (fun _ => 0))), ((u 53), .inl (cB, 1, .inl (fun _ => 0))), ((u 47), .inr (6, [.ref (u 59), .ref (u 60), .ref (u 61), .ref (u 62), .int 0])), (qo, .inl (cJ, 1, .inr (.inl (fun _ => 0))))]) [0, 15, 16, 17, 5, 7, 8, 6, 1, 2, 3, 4, 9, 10, 11, 12, 13, 14, 24] (by decide) rfl
  have hFc := va_free (wc := [(x, .inr (14, [.ref (u 0), .ref (u 1), .ref (u 2), .ref (u 3), .ref (u 4), .ref (u 5), .ref (u 6), .ref (u 7), .ref (u 8), .ref (u 9), .ref (u 10), .ref (u 11), .ref (u 12), .ref (u 13), .ref (u 14), .ref (u 15), .ref (u 16), .ref (u 17), .ref (u 18)])), ((u 7), .inr (12, [.int 0, .ref (u 63), .ref (u 64), .ref (u 65), .int 0, .int 0])), ((u 64), .inl (cI, 100, .inl (fun _ => 0))), ((u 65), .inl (cI, 24, .inl (fun _ => 0))), ((u 3), .inr (10, [.ref (u 31), .ref (u 32), .ref (u 33), .ref (u 34), .ref (u 35), .ref (u 36), .ref (u 37), .int 0, .int 0, .int 0, .int 0])), ((u 5), .inr (7, [.ref (u 38), .int 0, .ref (u 39), .ref (u 40), .ref (u 41), .ref (u 42), .ref (u 43), .ref (u 44)])), ((u 38), .inl (cI, 48, .inl (fun _ => 0))), ((u 36), .inl (cI, 24, .inl (fun _ => 0))), ((u 0), .inr (6, [.ref (u 19), .ref (u 20), .ref (u 21), .ref (u 22), .int 0])), ((u 19), .inl (cB, 1200, .inl (fun _ => 0))), ((u 20), .inl (cB, 40, .inl (fun _ => 0))), ((u 21), .inl (cB, 40, .inl (fun _ => 0))), ((u 6), .inr (5, [.ref (u 45), .ref (u 46), .ref (u 47), .ref (u 48), .ref (u 49), .ref (u 50)])), ((u 45), .inr (6, [.ref (u 51), .ref (u 52), .ref (u 53), .ref (u 54), .int 0])), ((u 51), .inl (cB, 30, .inl (fun _ => 0))), ((u 52), .inl (cB, 1, .inl (fun _ => 0))), ((u 53), .inl (cB, 1, .inl (fun _ => 0))), ((u 47), .inr (6, [.ref (u 59), .ref (u 60), .ref (u 61), .ref (u 62), .int 0])), (qo, .inl (cJ, 1, .inr (.inl (fun _ => 0))))]) hD hS hA [0, 15, 16, 17, 5, 7, 8, 6, 1, 2, 3, 4, 9, 10, 11, 12, 13, 14, 24] rfl
  refine vx_calli (vx_runSX (As := [.ref x, .ref qo]) (rest := []) ⟨hx, hb, hml, hown, hts⟩ (kf_L_diagram l dC dI cI cB cJ cZ x qo H.size u (fun _ => 0)) (vx_cwSW 2 hts gw_L_diagram rfl rfl rfl (by decide +kernel) ⟨(Nat.le_of_ble_eq_true rfl), (Nat.le_of_ble_eq_true rfl)⟩) ⟨fun a U g mk q => by obtain ⟨q0, q1, qP, qK, qD⟩ := q; exact ⟨q0, q1, qP, va_K.moved (u := U) (U := U.calling g mk a) (Vm.Alike.refl U.vm) qK, qD⟩, fun U hU hW => ⟨rfl, by rw [hU], by rw [hU]; exact hPc, va_K.moved hW.alike hK, hDc.weaken (fun _ _ _ _ => trivial)⟩⟩ rfl rfl hl.1 rfl (lv_room (Nat.le_of_ble_eq_true rfl)) dL_law_354 ⟨(Nat.le_of_ble_eq_true rfl), (Nat.le_of_ble_eq_true rfl)⟩) hS (fun q _ h => hFc q h) hFc (fun q _ h => hFc q h) (fun E ce q9 u9 t H1 locs1 ht hvm hp hB hz hk hS hce hcv hcl => hp.elim) (fun r7 g7 t H1 locs ht hvm hw hB hz1 hk1 hS => ?_)
  obtain ⟨hP1, hD1⟩ := hB
  rw [ht] at hP1
  obtain ⟨hP, hD⟩ := va_join (wr := [(y, .inr (16, v.1)), ((v.2 1), .inl (cI, 1280, .inl (fun _ => 0))), ((v.2 2), .inr (15, [.int 0, .int 0, .ref (v.2 3), .ref (v.2 25), .ref (v.2 26), .ref (v.2 27), .ref (v.2 28), .ref (v.2 29), .ref (v.2 30), .ref (v.2 31), .ref (v.2 4), .ref (v.2 5), .int 0, .ref (v.2 32), .ref (v.2 33), .int 0])), ((v.2 3), .inl (cI, 40, .inl (fun _ => 0))), ((v.2 4), .inl (cI, 40, .inl (fun _ => 0))), ((v.2 5), .inl (cI, 40, .inl (fun _ => 0)))]) (w1 := [(qo, .inl (cJ, 1, .inr (.inl g7)))]) hP hD [0, 15, 16, 17, 5, 7, 8, 6, 1, 2, 3, 4, 9, 10, 11, 12, 13, 14, 24] [18, 19, 20, 21, 22, 23] rfl rfl (by decide) (by decide) hk1 hFc hP1 hD1
  generalize H1 = H at hP hS ⊢
  have hP : va_P (dC, dI) vwCl [(y, .inr (16, v.1)), ((v.2 1), .inl (cI, 1280, .inl (fun _ => 0))), ((v.2 2), .inr (15, [.int 0, .int 0, .ref (v.2 3), .ref (v.2 25), .ref (v.2 26), .ref (v.2 27), .ref (v.2 28), .ref (v.2 29), .ref (v.2 30), .ref (v.2 31), .ref (v.2 4), .ref (v.2 5), .int 0, .ref (v.2 32), .ref (v.2 33), .int 0])), ((v.2 3), .inl (cI, 40, .inl (fun _ => 0))), ((v.2 4), .inl (cI, 40, .inl (fun _ => 0))), ((v.2 5), .inl (cI, 40, .inl (fun _ => 0))), (qo, .inl (cJ, 1, .inr (.inl g7)))] H := hP
  have hD : va_D (fun q : Nat => s.heap.size ≤ q) [(y, .inr (16, v.1)), ((v.2 1), .inl (cI, 1280, .inl (fun _ => 0))), ((v.2 2), .inr (15, [.int 0, .int 0, .ref (v.2 3), .ref (v.2 25), .ref (v.2 26), .ref (v.2 27), .ref (v.2 28), .ref (v.2 29), .ref (v.2 30), .ref (v.2 31), .ref (v.2 4), .ref (v.2 5), .int 0, .ref (v.2 32), .ref (v.2 33), .int 0])), ((v.2 3), .inl (cI, 40, .inl (fun _ => 0))), ((v.2 4), .inl (cI, 40, .inl (fun _ => 0))), ((v.2 5), .inl (cI, 40, .inl (fun _ => 0))), (qo, .inl (cJ, 1, .inr (.inl g7)))] := hD
  refine W.widen (k := 694) (n := 1334208) (Nat.le_of_ble_eq_true rfl) (Nat.le_of_ble_eq_true rfl) ?_
  obtain ⟨hr7, hg7⟩ := hw
  subst hr7
  refine lv_istore (lv' := [(5, .int 0), (0, .ref b), (1, .ref x), (2, .ref y), (3, .ref qo), (4, .int 0)]) hx hb dL_law_357 hl (by decide) rfl (fun ls hl => ?_)
  refine lv_aload_n hx hb dL_law_359 rfl (lv_at hl 3 rfl) ?_
  have hPc := hP.sub (ws' := [(y, .inr (16, v.1)), ((v.2 2), .inr (15, [.int 0, .int 0, .ref (v.2 3), .ref (v.2 25), .ref (v.2 26), .ref (v.2 27), .ref (v.2 28), .ref (v.2 29), .ref (v.2 30), .ref (v.2 31), .ref (v.2 4), .ref (v.2 5), .int 0, .ref (v.2 32), .ref (v.2 33), .int 0])), ((v.2 3), .inl (cI, 40, .inl (fun _ => 0))), ((v.2 4), .inl (cI, 40, .inl (fun _ => 0))), ((v.2 5), .inl (cI, 40, .inl (fun _ => 0))), ((v.2 1), .inl (cI, 1280, .inl (fun _ => 0)))]) [0, 2, 3, 4, 5, 1] rfl
  have hDc := hD.sub (ws' := [(y, .inr (16, v.1)), ((v.2 2), .inr (15, [.int 0, .int 0, .ref (v.2 3), .ref (v.2 25), .ref (v.2 26), .ref (v.2 27), .ref (v.2 28), .ref (v.2 29), .ref (v.2 30), .ref (v.2 31), .ref (v.2 4), .ref (v.2 5), .int 0, .ref (v.2 32), .ref (v.2 33), .int 0])), ((v.2 3), .inl (cI, 40, .inl (fun _ => 0))), ((v.2 4), .inl (cI, 40, .inl (fun _ => 0))), ((v.2 5), .inl (cI, 40, .inl (fun _ => 0))), ((v.2 1), .inl (cI, 1280, .inl (fun _ => 0)))]) [0, 2, 3, 4, 5, 1] (by decide) rfl
  have hFc := va_free (wc := [(y, .inr (16, v.1)), ((v.2 2), .inr (15, [.int 0, .int 0, .ref (v.2 3), .ref (v.2 25), .ref (v.2 26), .ref (v.2 27), .ref (v.2 28), .ref (v.2 29), .ref (v.2 30), .ref (v.2 31), .ref (v.2 4), .ref (v.2 5), .int 0, .ref (v.2 32), .ref (v.2 33), .int 0])), ((v.2 3), .inl (cI, 40, .inl (fun _ => 0))), ((v.2 4), .inl (cI, 40, .inl (fun _ => 0))), ((v.2 5), .inl (cI, 40, .inl (fun _ => 0))), ((v.2 1), .inl (cI, 1280, .inl (fun _ => 0)))]) hD hS hA [0, 2, 3, 4, 5, 1] rfl
  refine va_calli (va_runV (As := []) (rest := []) ⟨hx, hb, hml, hown, hts⟩ (kf_X13_diagram l dC dI cI cB cJ cZ y H.size v.1 hv.1 (v.2 2) (fun k => [0, 0, (v.2 3), (v.2 25), (v.2 26), (v.2 27), (v.2 28), (v.2 29), (v.2 30), (v.2 31), (v.2 4), (v.2 5), 0, (v.2 32), (v.2 33)].getD k 0) (v.2 1) (hv.2.at 23 rfl) (hv.2.at 20 rfl) (hv.2.at 19 rfl)) (cwV 0 hts gw_X13_diagram rfl rfl rfl (by decide +kernel) ⟨(Nat.le_of_ble_eq_true rfl), (Nat.le_of_ble_eq_true rfl)⟩) ⟨fun a U g mk q => by obtain ⟨q0, q1, qP, qK, qD, qN⟩ := q; exact ⟨q0, q1, qP, va_K.moved (u := U) (U := U.calling g mk a) (Vm.Alike.refl U.vm) qK, qD, ⟨va_Nw.same rfl rfl qN.1, va_Nw.same rfl rfl qN.2⟩⟩, va_recv hK hPc (ci := 16) (q0 := 0) rfl rfl, fun U hU hW => ⟨rfl, by rw [hU], by rw [hU]; exact hPc, va_K.moved hW.alike hK, hDc.weaken (fun _ _ _ _ => trivial), ⟨va_Nw.warmF hW hG.2.2.1.1, va_Nw.warmF hW hG.2.2.1.2⟩⟩⟩ rfl rfl hl.1 rfl (lv_room (Nat.le_of_ble_eq_true rfl)) dL_law_360 ⟨(Nat.le_of_ble_eq_true rfl), (Nat.le_of_ble_eq_true rfl)⟩) hS (fun q _ h => hFc q h) hFc (fun r9 g9 t H1 locs ht hvm hw hB hz1 hk1 hS => ?_)
  obtain ⟨hP1, hD1⟩ := hB
  rw [ht] at hP1
  obtain ⟨hP, hD⟩ := va_join (wr := [(qo, .inl (cJ, 1, .inr (.inl g7)))]) (w1 := [(y, .inr (16, g9))]) hP hD [0, 2, 3, 4, 5, 1] [6] rfl rfl (by decide) (by decide) hk1 hFc hP1 hD1
  generalize H1 = H at hP hS ⊢
  have hP : va_P (dC, dI) vwCl [(qo, .inl (cJ, 1, .inr (.inl g7))), (y, .inr (16, g9))] H := hP
  have hD : va_D (fun q : Nat => s.heap.size ≤ q) [(qo, .inl (cJ, 1, .inr (.inl g7))), (y, .inr (16, g9))] := hD
  obtain ⟨hr9, hg0⟩ := hw
  subst hr9
  refine lv_istore (lv' := [(6, .int 0), (5, .int 0), (0, .ref b), (1, .ref x), (2, .ref y), (3, .ref qo), (4, .int 0)]) hx hb dL_law_363 hl (by decide) rfl (fun ls hl => ?_)
  refine lv_aload_n hx hb dL_law_365 rfl (lv_at hl 4 rfl) ?_
  have hPc := hP.sub (ws' := [(y, .inr (16, g9))]) [1] rfl
  refine va_calli (va_runV (As := []) (rest := []) ⟨hx, hb, hml, hown, hts⟩ (kf_X13_thrownN l dC dI cI cB cJ cZ y g9 0 hg0) (cwV 0 hts gw_X13_thrown rfl rfl rfl (by decide +kernel) ⟨(Nat.le_of_ble_eq_true rfl), (Nat.le_of_ble_eq_true rfl)⟩) ⟨fun a U g mk q => by obtain ⟨q0, qP, qK⟩ := q; exact ⟨q0, qP, va_K.moved (u := U) (U := U.calling g mk a) (Vm.Alike.refl U.vm) qK⟩, va_recv hK hPc (ci := 16) (q0 := 0) rfl rfl, fun U hU hW => ⟨rfl, by rw [hU]; exact hPc, va_K.moved hW.alike hK⟩⟩ rfl rfl hl.1 rfl (lv_room (Nat.le_of_ble_eq_true rfl)) dL_law_366 ⟨(Nat.le_of_ble_eq_true rfl), (Nat.le_of_ble_eq_true rfl)⟩) hS (fun q _ h => h.elim) (fun q h => h.elim) (fun r8 un t H1 locs ht hvm hw8 hB hz1 hk1 hS => ?_)
  obtain rfl : r8 = 0 := hw8
  have hP := hP.kept (fun k9 x9 h9 => hk1 x9.1 ((hP k9 x9 h9).lt) id)
  generalize H1 = H at hP hS ⊢
  refine lv_iload hx hb dL_law_369 (lv_at hl 1 rfl) ?_
  refine lv_icmp_eq (tgt := 376) hx hb dL_law_371 (by decide) (fun _ => ?_) (fun c9 => absurd (rfl) c9)
  refine lv_iload hx hb dL_law_376 (lv_at hl 1 rfl) ?_
  refine lv_if_ne (tgt := 393) hx hb dL_law_378 (by decide) (fun c9 => absurd c9 (not_not_intro rfl)) (fun _ => ?_)
  refine lv_aload_n hx hb dL_law_381 rfl (lv_at hl 5 rfl) ?_
  refine lv_iconst (v := 0) hx hb dL_law_382 (by decide) ?_
  refine va_lald hx hb hK hP 0 2 rfl rfl (vp_in_nI (n := 0) (N := 1) (by decide) (by decide)) dL_law_383 ?_
  refine lv_topl (fun xl exl => ?_)
  have exl : xl = 0 := by first | exact exl.trans hg7 | exact exl.symm.trans hg7
  subst exl
  refine lv_iload hx hb dL_law_384 (lv_at hl 0 rfl) ?_
  refine lv_i2l hx hb dL_law_386 rfl ?_
  refine W.lcmp hx hb dL_law_387 ?_
  refine lv_if_eq (tgt := 393) hx hb dL_law_388 (by decide) (fun _ => ?_) (fun c9 => absurd (by decide) c9)
  refine lv_goto (tgt := 2616) hx hb dL_law_393 (by decide) ?_
  exact lc_fin C0 hS (lv_sub hl [2, 6] rfl) (Nat.le_of_ble_eq_true rfl) (Nat.le_of_ble_eq_true rfl)
theorem dL_law_396 : decode cL_law 396 = .ok (.aload_n 1, 1) := by decide +kernel
theorem dL_law_397 : decode cL_law 397 = .ok (.aload_n 0, 1) := by decide +kernel
theorem dL_law_398 : decode cL_law 398 = .ok (.iload 4, 2) := by decide +kernel
theorem dL_law_400 : decode cL_law 400 = .ok (.iconst 1, 1) := by decide +kernel
theorem dL_law_401 : decode cL_law 401 = .ok (.iadd, 1) := by decide +kernel
theorem dL_law_402 : decode cL_law 402 = .ok (.iaload, 1) := by decide +kernel
theorem dL_law_403 : decode cL_law 403 = .ok (.aload_n 3, 1) := by decide +kernel
theorem dL_law_404 : decode cL_law 404 = .ok (.invokestatic 148, 3) := by decide +kernel
theorem dL_law_407 : decode cL_law 407 = .ok (.istore 5, 2) := by decide +kernel
theorem dL_law_409 : decode cL_law 409 = .ok (.aload_n 2, 1) := by decide +kernel
theorem dL_law_410 : decode cL_law 410 = .ok (.aload_n 0, 1) := by decide +kernel
theorem dL_law_411 : decode cL_law 411 = .ok (.iload 4, 2) := by decide +kernel
theorem dL_law_413 : decode cL_law 413 = .ok (.iconst 1, 1) := by decide +kernel
theorem dL_law_414 : decode cL_law 414 = .ok (.iadd, 1) := by decide +kernel
theorem dL_law_415 : decode cL_law 415 = .ok (.iaload, 1) := by decide +kernel
theorem dL_law_416 : decode cL_law 416 = .ok (.invokevirtual 151, 3) := by decide +kernel
theorem dL_law_419 : decode cL_law 419 = .ok (.istore 6, 2) := by decide +kernel
theorem dL_law_421 : decode cL_law 421 = .ok (.aload_n 2, 1) := by decide +kernel
theorem dL_law_422 : decode cL_law 422 = .ok (.invokevirtual 137, 3) := by decide +kernel
theorem dL_law_425 : decode cL_law 425 = .ok (.iload 5, 2) := by decide +kernel
theorem dL_law_427 : decode cL_law 427 = .ok (.if_icmp .eq 5, 3) := by decide +kernel
theorem dL_law_430 : decode cL_law 430 = .ok (.iconst 0, 1) := by decide +kernel
theorem dL_law_431 : decode cL_law 431 = .ok (.ireturn, 1) := by decide +kernel
theorem dL_law_432 : decode cL_law 432 = .ok (.iload 5, 2) := by decide +kernel
theorem dL_law_434 : decode cL_law 434 = .ok (.ifCond .ne 15, 3) := by decide +kernel
theorem dL_law_437 : decode cL_law 437 = .ok (.aload_n 3, 1) := by decide +kernel
theorem dL_law_438 : decode cL_law 438 = .ok (.iconst 0, 1) := by decide +kernel
theorem dL_law_439 : decode cL_law 439 = .ok (.laload, 1) := by decide +kernel
theorem dL_law_440 : decode cL_law 440 = .ok (.iload 6, 2) := by decide +kernel
theorem dL_law_442 : decode cL_law 442 = .ok (.i2l, 1) := by decide +kernel
theorem dL_law_443 : decode cL_law 443 = .ok (.lcmp, 1) := by decide +kernel
theorem dL_law_444 : decode cL_law 444 = .ok (.ifCond .eq 5, 3) := by decide +kernel
theorem dL_law_447 : decode cL_law 447 = .ok (.iconst 0, 1) := by decide +kernel
theorem dL_law_448 : decode cL_law 448 = .ok (.ireturn, 1) := by decide +kernel
theorem dL_law_449 : decode cL_law 449 = .ok (.goto 2167, 3) := by decide +kernel
set_option maxHeartbeats 4000000 in
set_option maxRecDepth 100000 in
theorem lc_braid {p : Program} {l : Launch} {e : Env} {s : State} {m : MethodId} {below : List Frame} {meth : Method} {c : Code} {b : Nat} {xs : Nat → Int32} {dC : Nat → ClassId} {dI : Nat → Nat → Nat} {cI cB cJ cZ : ClassId} {sa : Nat → Nat} (C0 : lw_At p s m meth c b 6 xs) (hG : ow_LG l s dC dI cI cB cJ cZ sa) {x y qo : Nat} {u : Nat → Nat} {v : List Value × (Nat → Nat)} (hv : kn_X13_init v) {H : Heap} {locs : List Loc} {ls : Array Slot} (hP : va_P (dC, dI) vwCl (wd_X11_init cI cB cJ x u ++ (wd_X13_init cI cB y v ++ [(qo, .inl (cJ, 1, .inr (.inl (fun _ => 0))))])) H) (hD : va_D (fun q : Nat => s.heap.size ≤ q) (wd_X11_init cI cB cJ x u ++ (wd_X13_init cI cB y v ++ [(qo, .inl (cJ, 1, .inr (.inl (fun _ => 0))))]))) (hS : va_S (fun q : Nat => s.heap.size ≤ q) s.heap H locs) (hl : lv_has ls 8 [(0, .ref b), (1, .ref x), (2, .ref y), (3, .ref qo), (4, .int 0)]) : W p l e room_1 s m #[Value.ref b] below meth c H locs 694 1334208 (lw_Z below #[Value.ref b] s) (F0 m 396 ls []) := by
  obtain ⟨hx, hb, hr, hml, hown, hts, hX, hbl, hlocks, hgv⟩ := id C0
  have hown : s.vm.findClass RL = some m.cls := hown
  have hA : ∀ q : Nat, s.heap.size ≤ q → (fun q : Nat => s.heap.size ≤ q) q := fun _ h => h
  have hbA : ¬ (fun q : Nat => s.heap.size ≤ q) b := Nat.not_le.mpr hbl
  have hK := hG.2.1
  have hP := hP.sub (ws' := [(x, .inr (14, [.ref (u 0), .ref (u 1), .ref (u 2), .ref (u 3), .ref (u 4), .ref (u 5), .ref (u 6), .ref (u 7), .ref (u 8), .ref (u 9), .ref (u 10), .ref (u 11), .ref (u 12), .ref (u 13), .ref (u 14), .ref (u 15), .ref (u 16), .ref (u 17), .ref (u 18)])), ((u 7), .inr (12, [.int 0, .ref (u 63), .ref (u 64), .ref (u 65), .int 0, .int 0])), ((u 13), .inl (cI, 20, .inl (fun _ => 0))), ((u 14), .inl (cI, 20, .inl (fun _ => 0))), (y, .inr (16, v.1)), ((v.2 8), .inl (cI, 20, .inl (fun _ => 0))), ((v.2 9), .inl (cI, 20, .inl (fun _ => 0))), (qo, .inl (cJ, 1, .inr (.inl (fun _ => 0))))]) [0, 51, 58, 59, 60, 69, 70, 71] rfl
  have hD := hD.sub (ws' := [(x, .inr (14, [.ref (u 0), .ref (u 1), .ref (u 2), .ref (u 3), .ref (u 4), .ref (u 5), .ref (u 6), .ref (u 7), .ref (u 8), .ref (u 9), .ref (u 10), .ref (u 11), .ref (u 12), .ref (u 13), .ref (u 14), .ref (u 15), .ref (u 16), .ref (u 17), .ref (u 18)])), ((u 7), .inr (12, [.int 0, .ref (u 63), .ref (u 64), .ref (u 65), .int 0, .int 0])), ((u 13), .inl (cI, 20, .inl (fun _ => 0))), ((u 14), .inl (cI, 20, .inl (fun _ => 0))), (y, .inr (16, v.1)), ((v.2 8), .inl (cI, 20, .inl (fun _ => 0))), ((v.2 9), .inl (cI, 20, .inl (fun _ => 0))), (qo, .inl (cJ, 1, .inr (.inl (fun _ => 0))))]) [0, 51, 58, 59, 60, 69, 70, 71] (by decide) rfl
  refine lv_aload_n hx hb dL_law_396 rfl (lv_at hl 1 rfl) ?_
  refine lv_aload_n hx hb dL_law_397 rfl (lv_at hl 0 rfl) ?_
  refine lv_iload hx hb dL_law_398 (lv_at hl 4 rfl) ?_
  refine lv_iconst (v := 1) hx hb dL_law_400 (by decide) ?_
  refine lv_iadd hx hb dL_law_401 ?_
  refine ow_topi (y := 1) (by decide) ?_
  refine va_sld hx hb hX hbl hbA hS (vp_in_nI (n := 1) (N := 6) (by decide) (by decide)) dL_law_402 ?_
  refine ow_topi (y := xs 1) (congrArg xs (by decide)) ?_
  refine lv_aload_n hx hb dL_law_403 rfl (lv_at hl 3 rfl) ?_
  have hPc := hP.sub (ws' := [(x, .inr (14, [.ref (u 0), .ref (u 1), .ref (u 2), .ref (u 3), .ref (u 4), .ref (u 5), .ref (u 6), .ref (u 7), .ref (u 8), .ref (u 9), .ref (u 10), .ref (u 11), .ref (u 12), .ref (u 13), .ref (u 14), .ref (u 15), .ref (u 16), .ref (u 17), .ref (u 18)])), ((u 7), .inr (12, [.int 0, .ref (u 63), .ref (u 64), .ref (u 65), .int 0, .int 0])), ((u 13), .inl (cI, 20, .inl (fun _ => 0))), ((u 14), .inl (cI, 20, .inl (fun _ => 0))), (qo, .inl (cJ, 1, .inr (.inl (fun _ => 0))))]) [0, 1, 2, 3, 7] rfl
  have hDc := hD.sub (ws' := [(x, .inr (14, [.ref (u 0), .ref (u 1), .ref (u 2), .ref (u 3), .ref (u 4), .ref (u 5), .ref (u 6), .ref (u 7), .ref (u 8), .ref (u 9), .ref (u 10), .ref (u 11), .ref (u 12), .ref (u 13), .ref (u 14), .ref (u 15), .ref (u 16), .ref (u 17), .ref (u 18)])), ((u 7), .inr (12, [.int 0, .ref (u 63), .ref (u 64), .ref (u 65), .int 0, .int 0])), ((u 13), .inl (cI, 20, .inl (fun _ => 0))), ((u 14), .inl (cI, 20, .inl (fun _ => 0))), (qo, .inl (cJ, 1, .inr (.inl (fun _ => 0))))]) [0, 1, 2, 3, 7] (by decide) rfl
  have hFc := va_free (wc := [(x, .inr (14, [.ref (u 0), .ref (u 1), .ref (u 2), .ref (u 3), .ref (u 4), .ref (u 5), .ref (u 6), .ref (u 7), .ref (u 8), .ref (u 9), .ref (u 10), .ref (u 11), .ref (u 12), .ref (u 13), .ref (u 14), .ref (u 15), .ref (u 16), .ref (u 17), .ref (u 18)])), ((u 7), .inr (12, [.int 0, .ref (u 63), .ref (u 64), .ref (u 65), .int 0, .int 0])), ((u 13), .inl (cI, 20, .inl (fun _ => 0))), ((u 14), .inl (cI, 20, .inl (fun _ => 0))), (qo, .inl (cJ, 1, .inr (.inl (fun _ => 0))))]) hD hS hA [0, 1, 2, 3, 7] rfl
  refine vx_calli (vx_runSX (As := [.ref x, .int (xs 1), .ref qo]) (rest := []) ⟨hx, hb, hml, hown, hts⟩ (kf_L_braid l dC dI cI cB cJ cZ hG.1 x (sa 4) qo H.size u (fun _ => 0) (xs 1)) (vx_cwSW 3 hts gw_L_braid rfl rfl rfl (by decide +kernel) ⟨(Nat.le_of_ble_eq_true rfl), (Nat.le_of_ble_eq_true rfl)⟩) ⟨fun a U g mk q => by obtain ⟨q0, q1, qP, qK, qD, qT⟩ := q; exact ⟨q0, q1, qP, va_K.moved (u := U) (U := U.calling g mk a) (Vm.Alike.refl U.vm) qK, qD, qT.same rfl rfl⟩, fun U hU hW => ⟨rfl, by rw [hU], by rw [hU]; exact hPc, va_K.moved hW.alike hK, hDc.weaken (fun _ _ _ _ => trivial), (hG.2.2.2.2.2.2.2).to hS hW hU (fun q h => hFc q h)⟩⟩ rfl rfl hl.1 rfl (lv_room (Nat.le_of_ble_eq_true rfl)) dL_law_404 ⟨(Nat.le_of_ble_eq_true rfl), (Nat.le_of_ble_eq_true rfl)⟩) hS (fun q _ h => hFc q h) hFc (fun q _ h => hFc q h) (fun E ce q9 u9 t H1 locs1 ht hvm hp hB hz hk hS hce hcv hcl => hp.elim) (fun r7 g7 t H1 locs ht hvm hw hB hz1 hk1 hS => ?_)
  obtain ⟨hP1, hD1⟩ := hB
  rw [ht] at hP1
  obtain ⟨hP, hD⟩ := va_join (wr := [(y, .inr (16, v.1)), ((v.2 8), .inl (cI, 20, .inl (fun _ => 0))), ((v.2 9), .inl (cI, 20, .inl (fun _ => 0)))]) (w1 := [(qo, .inl (cJ, 1, .inr (.inl g7)))]) hP hD [0, 1, 2, 3, 7] [4, 5, 6] rfl rfl (by decide) (by decide) hk1 hFc hP1 hD1
  generalize H1 = H at hP hS ⊢
  have hP : va_P (dC, dI) vwCl [(y, .inr (16, v.1)), ((v.2 8), .inl (cI, 20, .inl (fun _ => 0))), ((v.2 9), .inl (cI, 20, .inl (fun _ => 0))), (qo, .inl (cJ, 1, .inr (.inl g7)))] H := hP
  have hD : va_D (fun q : Nat => s.heap.size ≤ q) [(y, .inr (16, v.1)), ((v.2 8), .inl (cI, 20, .inl (fun _ => 0))), ((v.2 9), .inl (cI, 20, .inl (fun _ => 0))), (qo, .inl (cJ, 1, .inr (.inl g7)))] := hD
  refine W.widen (k := 695) (n := 1334214) (Nat.le_of_ble_eq_true rfl) (Nat.le_of_ble_eq_true rfl) ?_
  rcases hw with ⟨hr7, hn7⟩ | ⟨hr7, hg7, hn7, hn8⟩
  · subst hr7
    refine lv_istore (lv' := [(5, .int 1), (0, .ref b), (1, .ref x), (2, .ref y), (3, .ref qo), (4, .int 0)]) hx hb dL_law_407 hl (by decide) rfl (fun ls hl => ?_)
    refine lv_aload_n hx hb dL_law_409 rfl (lv_at hl 3 rfl) ?_
    refine lv_aload_n hx hb dL_law_410 rfl (lv_at hl 1 rfl) ?_
    refine lv_iload hx hb dL_law_411 (lv_at hl 5 rfl) ?_
    refine lv_iconst (v := 1) hx hb dL_law_413 (by decide) ?_
    refine lv_iadd hx hb dL_law_414 ?_
    refine ow_topi (y := 1) (by decide) ?_
    refine va_sld hx hb hX hbl hbA hS (vp_in_nI (n := 1) (N := 6) (by decide) (by decide)) dL_law_415 ?_
    refine ow_topi (y := xs 1) (congrArg xs (by decide)) ?_
    have hPc := hP.sub (ws' := [(y, .inr (16, v.1)), ((v.2 9), .inl (cI, 20, .inl (fun _ => 0))), ((v.2 8), .inl (cI, 20, .inl (fun _ => 0)))]) [0, 2, 1] rfl
    have hDc := hD.sub (ws' := [(y, .inr (16, v.1)), ((v.2 9), .inl (cI, 20, .inl (fun _ => 0))), ((v.2 8), .inl (cI, 20, .inl (fun _ => 0)))]) [0, 2, 1] (by decide) rfl
    have hFc := va_free (wc := [(y, .inr (16, v.1)), ((v.2 9), .inl (cI, 20, .inl (fun _ => 0))), ((v.2 8), .inl (cI, 20, .inl (fun _ => 0)))]) hD hS hA [0, 2, 1] rfl
    refine va_calli (va_runV (As := [.int (xs 1)]) (rest := []) ⟨hx, hb, hml, hown, hts⟩ (kf_X13_braid l dC dI cI cB cJ cZ y H.size v.1 hv.1 (v.2 9) (v.2 8) (hv.2.at 11 rfl) (hv.2.at 12 rfl) (hv.2.at 23 rfl) (xs 1)) (cwV 1 hts gw_X13_braid rfl rfl rfl (by decide +kernel) ⟨(Nat.le_of_ble_eq_true rfl), (Nat.le_of_ble_eq_true rfl)⟩) ⟨fun a U g mk q => by obtain ⟨q0, q1, qP, qK, qD⟩ := q; exact ⟨q0, q1, qP, va_K.moved (u := U) (U := U.calling g mk a) (Vm.Alike.refl U.vm) qK, qD⟩, va_recv hK hPc (ci := 16) (q0 := 0) rfl rfl, fun U hU hW => ⟨rfl, by rw [hU], by rw [hU]; exact hPc, va_K.moved hW.alike hK, hDc.weaken (fun _ _ _ _ => trivial)⟩⟩ rfl rfl hl.1 rfl (lv_room (Nat.le_of_ble_eq_true rfl)) dL_law_416 ⟨(Nat.le_of_ble_eq_true rfl), (Nat.le_of_ble_eq_true rfl)⟩) hS (fun q _ h => hFc q h) hFc (fun r9 g9 t H1 locs ht hvm hw hB hz1 hk1 hS => ?_)
    obtain ⟨hP1, hD1⟩ := hB
    rw [ht] at hP1
    obtain ⟨hP, hD⟩ := va_join (wr := [(qo, .inl (cJ, 1, .inr (.inl g7)))]) (w1 := [(y, .inr (16, g9))]) hP hD [0, 2, 1] [3] rfl rfl (by decide) (by decide) hk1 hFc hP1 hD1
    generalize H1 = H at hP hS ⊢
    have hP : va_P (dC, dI) vwCl [(qo, .inl (cJ, 1, .inr (.inl g7))), (y, .inr (16, g9))] H := hP
    have hD : va_D (fun q : Nat => s.heap.size ≤ q) [(qo, .inl (cJ, 1, .inr (.inl g7))), (y, .inr (16, g9))] := hD
    obtain ⟨hr9, hg0⟩ := hw
    subst hr9
    rw [if_pos hn7] at hg0
    refine lv_istore (lv' := [(6, .int 0), (5, .int 1), (0, .ref b), (1, .ref x), (2, .ref y), (3, .ref qo), (4, .int 0)]) hx hb dL_law_419 hl (by decide) rfl (fun ls hl => ?_)
    refine lv_aload_n hx hb dL_law_421 rfl (lv_at hl 4 rfl) ?_
    have hPc := hP.sub (ws' := [(y, .inr (16, g9))]) [1] rfl
    refine va_calli (va_runV (As := []) (rest := []) ⟨hx, hb, hml, hown, hts⟩ (kf_X13_thrownN l dC dI cI cB cJ cZ y g9 1 hg0) (cwV 0 hts gw_X13_thrown rfl rfl rfl (by decide +kernel) ⟨(Nat.le_of_ble_eq_true rfl), (Nat.le_of_ble_eq_true rfl)⟩) ⟨fun a U g mk q => by obtain ⟨q0, qP, qK⟩ := q; exact ⟨q0, qP, va_K.moved (u := U) (U := U.calling g mk a) (Vm.Alike.refl U.vm) qK⟩, va_recv hK hPc (ci := 16) (q0 := 0) rfl rfl, fun U hU hW => ⟨rfl, by rw [hU]; exact hPc, va_K.moved hW.alike hK⟩⟩ rfl rfl hl.1 rfl (lv_room (Nat.le_of_ble_eq_true rfl)) dL_law_422 ⟨(Nat.le_of_ble_eq_true rfl), (Nat.le_of_ble_eq_true rfl)⟩) hS (fun q _ h => h.elim) (fun q h => h.elim) (fun r8 un t H1 locs ht hvm hw8 hB hz1 hk1 hS => ?_)
    obtain rfl : r8 = 1 := hw8
    have hP := hP.kept (fun k9 x9 h9 => hk1 x9.1 ((hP k9 x9 h9).lt) id)
    generalize H1 = H at hP hS ⊢
    refine lv_iload hx hb dL_law_425 (lv_at hl 1 rfl) ?_
    refine lv_icmp_eq (tgt := 432) hx hb dL_law_427 (by decide) (fun _ => ?_) (fun c9 => absurd (rfl) c9)
    refine lv_iload hx hb dL_law_432 (lv_at hl 1 rfl) ?_
    refine lv_if_ne (tgt := 449) hx hb dL_law_434 (by decide) (fun _ => ?_) (fun c9 => absurd c9 (by decide))
    refine lv_goto (tgt := 2616) hx hb dL_law_449 (by decide) ?_
    exact lc_fin C0 hS (lv_sub hl [2, 6] rfl) (Nat.le_of_ble_eq_true rfl) (Nat.le_of_ble_eq_true rfl)
  · subst hr7
    refine lv_istore (lv' := [(5, .int 0), (0, .ref b), (1, .ref x), (2, .ref y), (3, .ref qo), (4, .int 0)]) hx hb dL_law_407 hl (by decide) rfl (fun ls hl => ?_)
    refine lv_aload_n hx hb dL_law_409 rfl (lv_at hl 3 rfl) ?_
    refine lv_aload_n hx hb dL_law_410 rfl (lv_at hl 1 rfl) ?_
    refine lv_iload hx hb dL_law_411 (lv_at hl 5 rfl) ?_
    refine lv_iconst (v := 1) hx hb dL_law_413 (by decide) ?_
    refine lv_iadd hx hb dL_law_414 ?_
    refine ow_topi (y := 1) (by decide) ?_
    refine va_sld hx hb hX hbl hbA hS (vp_in_nI (n := 1) (N := 6) (by decide) (by decide)) dL_law_415 ?_
    refine ow_topi (y := xs 1) (congrArg xs (by decide)) ?_
    have hPc := hP.sub (ws' := [(y, .inr (16, v.1)), ((v.2 9), .inl (cI, 20, .inl (fun _ => 0))), ((v.2 8), .inl (cI, 20, .inl (fun _ => 0)))]) [0, 2, 1] rfl
    have hDc := hD.sub (ws' := [(y, .inr (16, v.1)), ((v.2 9), .inl (cI, 20, .inl (fun _ => 0))), ((v.2 8), .inl (cI, 20, .inl (fun _ => 0)))]) [0, 2, 1] (by decide) rfl
    have hFc := va_free (wc := [(y, .inr (16, v.1)), ((v.2 9), .inl (cI, 20, .inl (fun _ => 0))), ((v.2 8), .inl (cI, 20, .inl (fun _ => 0)))]) hD hS hA [0, 2, 1] rfl
    refine va_calli (va_runV (As := [.int (xs 1)]) (rest := []) ⟨hx, hb, hml, hown, hts⟩ (kf_X13_braid l dC dI cI cB cJ cZ y H.size v.1 hv.1 (v.2 9) (v.2 8) (hv.2.at 11 rfl) (hv.2.at 12 rfl) (hv.2.at 23 rfl) (xs 1)) (cwV 1 hts gw_X13_braid rfl rfl rfl (by decide +kernel) ⟨(Nat.le_of_ble_eq_true rfl), (Nat.le_of_ble_eq_true rfl)⟩) ⟨fun a U g mk q => by obtain ⟨q0, q1, qP, qK, qD⟩ := q; exact ⟨q0, q1, qP, va_K.moved (u := U) (U := U.calling g mk a) (Vm.Alike.refl U.vm) qK, qD⟩, va_recv hK hPc (ci := 16) (q0 := 0) rfl rfl, fun U hU hW => ⟨rfl, by rw [hU], by rw [hU]; exact hPc, va_K.moved hW.alike hK, hDc.weaken (fun _ _ _ _ => trivial)⟩⟩ rfl rfl hl.1 rfl (lv_room (Nat.le_of_ble_eq_true rfl)) dL_law_416 ⟨(Nat.le_of_ble_eq_true rfl), (Nat.le_of_ble_eq_true rfl)⟩) hS (fun q _ h => hFc q h) hFc (fun r9 g9 t H1 locs ht hvm hw hB hz1 hk1 hS => ?_)
    obtain ⟨hP1, hD1⟩ := hB
    rw [ht] at hP1
    obtain ⟨hP, hD⟩ := va_join (wr := [(qo, .inl (cJ, 1, .inr (.inl g7)))]) (w1 := [(y, .inr (16, g9))]) hP hD [0, 2, 1] [3] rfl rfl (by decide) (by decide) hk1 hFc hP1 hD1
    generalize H1 = H at hP hS ⊢
    have hP : va_P (dC, dI) vwCl [(qo, .inl (cJ, 1, .inr (.inl g7))), (y, .inr (16, g9))] H := hP
    have hD : va_D (fun q : Nat => s.heap.size ≤ q) [(qo, .inl (cJ, 1, .inr (.inl g7))), (y, .inr (16, g9))] := hD
    obtain ⟨hr9, hg0⟩ := hw
    subst hr9
    rw [if_neg (fun h9 => h9.elim hn7 (fun y9 => y9 hn8))] at hg0
    refine lv_istore (lv' := [(6, .int 0), (5, .int 0), (0, .ref b), (1, .ref x), (2, .ref y), (3, .ref qo), (4, .int 0)]) hx hb dL_law_419 hl (by decide) rfl (fun ls hl => ?_)
    refine lv_aload_n hx hb dL_law_421 rfl (lv_at hl 4 rfl) ?_
    have hPc := hP.sub (ws' := [(y, .inr (16, g9))]) [1] rfl
    refine va_calli (va_runV (As := []) (rest := []) ⟨hx, hb, hml, hown, hts⟩ (kf_X13_thrownN l dC dI cI cB cJ cZ y g9 0 hg0) (cwV 0 hts gw_X13_thrown rfl rfl rfl (by decide +kernel) ⟨(Nat.le_of_ble_eq_true rfl), (Nat.le_of_ble_eq_true rfl)⟩) ⟨fun a U g mk q => by obtain ⟨q0, qP, qK⟩ := q; exact ⟨q0, qP, va_K.moved (u := U) (U := U.calling g mk a) (Vm.Alike.refl U.vm) qK⟩, va_recv hK hPc (ci := 16) (q0 := 0) rfl rfl, fun U hU hW => ⟨rfl, by rw [hU]; exact hPc, va_K.moved hW.alike hK⟩⟩ rfl rfl hl.1 rfl (lv_room (Nat.le_of_ble_eq_true rfl)) dL_law_422 ⟨(Nat.le_of_ble_eq_true rfl), (Nat.le_of_ble_eq_true rfl)⟩) hS (fun q _ h => h.elim) (fun q h => h.elim) (fun r8 un t H1 locs ht hvm hw8 hB hz1 hk1 hS => ?_)
    obtain rfl : r8 = 0 := hw8
    have hP := hP.kept (fun k9 x9 h9 => hk1 x9.1 ((hP k9 x9 h9).lt) id)
    generalize H1 = H at hP hS ⊢
    refine lv_iload hx hb dL_law_425 (lv_at hl 1 rfl) ?_
    refine lv_icmp_eq (tgt := 432) hx hb dL_law_427 (by decide) (fun _ => ?_) (fun c9 => absurd (rfl) c9)
    refine lv_iload hx hb dL_law_432 (lv_at hl 1 rfl) ?_
    refine lv_if_ne (tgt := 449) hx hb dL_law_434 (by decide) (fun c9 => absurd c9 (not_not_intro rfl)) (fun _ => ?_)
    refine lv_aload_n hx hb dL_law_437 rfl (lv_at hl 5 rfl) ?_
    refine lv_iconst (v := 0) hx hb dL_law_438 (by decide) ?_
    refine va_lald hx hb hK hP 0 2 rfl rfl (vp_in_nI (n := 0) (N := 1) (by decide) (by decide)) dL_law_439 ?_
    refine lv_topl (fun xl exl => ?_)
    have exl : xl = 0 := by first | exact exl.trans hg7 | exact exl.symm.trans hg7
    subst exl
    refine lv_iload hx hb dL_law_440 (lv_at hl 0 rfl) ?_
    refine lv_i2l hx hb dL_law_442 rfl ?_
    refine W.lcmp hx hb dL_law_443 ?_
    refine lv_if_eq (tgt := 449) hx hb dL_law_444 (by decide) (fun _ => ?_) (fun c9 => absurd (by decide) c9)
    refine lv_goto (tgt := 2616) hx hb dL_law_449 (by decide) ?_
    exact lc_fin C0 hS (lv_sub hl [2, 6] rfl) (Nat.le_of_ble_eq_true rfl) (Nat.le_of_ble_eq_true rfl)
theorem dL_law_452 : decode cL_law 452 = .ok (.aload_n 1, 1) := by decide +kernel
theorem dL_law_453 : decode cL_law 453 = .ok (.aload_n 0, 1) := by decide +kernel
theorem dL_law_454 : decode cL_law 454 = .ok (.iload 4, 2) := by decide +kernel
theorem dL_law_456 : decode cL_law 456 = .ok (.iconst 1, 1) := by decide +kernel
theorem dL_law_457 : decode cL_law 457 = .ok (.iadd, 1) := by decide +kernel
theorem dL_law_458 : decode cL_law 458 = .ok (.iaload, 1) := by decide +kernel
theorem dL_law_459 : decode cL_law 459 = .ok (.invokevirtual 152, 3) := by decide +kernel
theorem dL_law_462 : decode cL_law 462 = .ok (.aload_n 2, 1) := by decide +kernel
theorem dL_law_463 : decode cL_law 463 = .ok (.aload_n 0, 1) := by decide +kernel
theorem dL_law_464 : decode cL_law 464 = .ok (.iload 4, 2) := by decide +kernel
theorem dL_law_466 : decode cL_law 466 = .ok (.iconst 1, 1) := by decide +kernel
theorem dL_law_467 : decode cL_law 467 = .ok (.iadd, 1) := by decide +kernel
theorem dL_law_468 : decode cL_law 468 = .ok (.iaload, 1) := by decide +kernel
theorem dL_law_469 : decode cL_law 469 = .ok (.invokevirtual 156, 3) := by decide +kernel
theorem dL_law_472 : decode cL_law 472 = .ok (.if_icmp .eq 2144, 3) := by decide +kernel
theorem dL_law_475 : decode cL_law 475 = .ok (.iconst 0, 1) := by decide +kernel
theorem dL_law_476 : decode cL_law 476 = .ok (.ireturn, 1) := by decide +kernel
set_option maxHeartbeats 4000000 in
set_option maxRecDepth 100000 in
theorem lc_drop {p : Program} {l : Launch} {e : Env} {s : State} {m : MethodId} {below : List Frame} {meth : Method} {c : Code} {b : Nat} {xs : Nat → Int32} {dC : Nat → ClassId} {dI : Nat → Nat → Nat} {cI cB cJ cZ : ClassId} {sa : Nat → Nat} (C0 : lw_At p s m meth c b 6 xs) (hG : ow_LG l s dC dI cI cB cJ cZ sa) {x y qo : Nat} {u : Nat → Nat} {v : List Value × (Nat → Nat)} (hv : kn_X13_init v) {H : Heap} {locs : List Loc} {ls : Array Slot} (hP : va_P (dC, dI) vwCl (wd_X11_init cI cB cJ x u ++ (wd_X13_init cI cB y v ++ [(qo, .inl (cJ, 1, .inr (.inl (fun _ => 0))))])) H) (hD : va_D (fun q : Nat => s.heap.size ≤ q) (wd_X11_init cI cB cJ x u ++ (wd_X13_init cI cB y v ++ [(qo, .inl (cJ, 1, .inr (.inl (fun _ => 0))))]))) (hS : va_S (fun q : Nat => s.heap.size ≤ q) s.heap H locs) (hl : lv_has ls 8 [(0, .ref b), (1, .ref x), (2, .ref y), (3, .ref qo), (4, .int 0)]) : W p l e room_1 s m #[Value.ref b] below meth c H locs 694 1334208 (lw_Z below #[Value.ref b] s) (F0 m 452 ls []) := by
  obtain ⟨hx, hb, hr, hml, hown, hts, hX, hbl, hlocks, hgv⟩ := id C0
  have hown : s.vm.findClass RL = some m.cls := hown
  have hA : ∀ q : Nat, s.heap.size ≤ q → (fun q : Nat => s.heap.size ≤ q) q := fun _ h => h
  have hbA : ¬ (fun q : Nat => s.heap.size ≤ q) b := Nat.not_le.mpr hbl
  have hK := hG.2.1
  have hP := hP.sub (ws' := [(x, .inr (14, [.ref (u 0), .ref (u 1), .ref (u 2), .ref (u 3), .ref (u 4), .ref (u 5), .ref (u 6), .ref (u 7), .ref (u 8), .ref (u 9), .ref (u 10), .ref (u 11), .ref (u 12), .ref (u 13), .ref (u 14), .ref (u 15), .ref (u 16), .ref (u 17), .ref (u 18)])), ((u 0), .inr (6, [.ref (u 19), .ref (u 20), .ref (u 21), .ref (u 22), .int 0])), ((u 20), .inl (cB, 40, .inl (fun _ => 0))), (y, .inr (16, v.1)), ((v.2 1), .inl (cI, 1280, .inl (fun _ => 0))), (qo, .inl (cJ, 1, .inr (.inl (fun _ => 0))))]) [0, 1, 3, 60, 62, 71] rfl
  have hD := hD.sub (ws' := [(x, .inr (14, [.ref (u 0), .ref (u 1), .ref (u 2), .ref (u 3), .ref (u 4), .ref (u 5), .ref (u 6), .ref (u 7), .ref (u 8), .ref (u 9), .ref (u 10), .ref (u 11), .ref (u 12), .ref (u 13), .ref (u 14), .ref (u 15), .ref (u 16), .ref (u 17), .ref (u 18)])), ((u 0), .inr (6, [.ref (u 19), .ref (u 20), .ref (u 21), .ref (u 22), .int 0])), ((u 20), .inl (cB, 40, .inl (fun _ => 0))), (y, .inr (16, v.1)), ((v.2 1), .inl (cI, 1280, .inl (fun _ => 0))), (qo, .inl (cJ, 1, .inr (.inl (fun _ => 0))))]) [0, 1, 3, 60, 62, 71] (by decide) rfl
  refine lv_aload_n hx hb dL_law_452 rfl (lv_at hl 1 rfl) ?_
  refine lv_aload_n hx hb dL_law_453 rfl (lv_at hl 0 rfl) ?_
  refine lv_iload hx hb dL_law_454 (lv_at hl 4 rfl) ?_
  refine lv_iconst (v := 1) hx hb dL_law_456 (by decide) ?_
  refine lv_iadd hx hb dL_law_457 ?_
  refine ow_topi (y := 1) (by decide) ?_
  refine va_sld hx hb hX hbl hbA hS (vp_in_nI (n := 1) (N := 6) (by decide) (by decide)) dL_law_458 ?_
  refine ow_topi (y := xs 1) (congrArg xs (by decide)) ?_
  have hPc := hP.sub (ws' := [(x, .inr (14, [.ref (u 0), .ref (u 1), .ref (u 2), .ref (u 3), .ref (u 4), .ref (u 5), .ref (u 6), .ref (u 7), .ref (u 8), .ref (u 9), .ref (u 10), .ref (u 11), .ref (u 12), .ref (u 13), .ref (u 14), .ref (u 15), .ref (u 16), .ref (u 17), .ref (u 18)])), ((u 0), .inr (6, [.ref (u 19), .ref (u 20), .ref (u 21), .ref (u 22), .int 0])), ((u 20), .inl (cB, 40, .inl (fun _ => 0)))]) [0, 1, 2] rfl
  refine va_calli (va_runV (As := [.int (xs 1)]) (rest := []) ⟨hx, hb, hml, hown, hts⟩ (kf_X11_drop l dC dI cI cB cJ cZ x u (xs 1)) (cwV 1 hts gw_X11_drop rfl rfl rfl (by decide +kernel) ⟨(Nat.le_of_ble_eq_true rfl), (Nat.le_of_ble_eq_true rfl)⟩) ⟨fun a U g mk q => by obtain ⟨q0, qP, qK⟩ := q; exact ⟨q0, qP, va_K.moved (u := U) (U := U.calling g mk a) (Vm.Alike.refl U.vm) qK⟩, va_recv hK hPc (ci := 14) (q0 := 0) rfl rfl, fun U hU hW => ⟨rfl, by rw [hU]; exact hPc, va_K.moved hW.alike hK⟩⟩ rfl rfl hl.1 rfl (lv_room (Nat.le_of_ble_eq_true rfl)) dL_law_459 ⟨(Nat.le_of_ble_eq_true rfl), (Nat.le_of_ble_eq_true rfl)⟩) hS (fun q _ h => h.elim) (fun q h => h.elim) (fun r7 un t H1 locs ht hvm hw hB hz1 hk1 hS => ?_)
  obtain rfl : r7 = 0 := hw
  have hP := hP.kept (fun k9 x9 h9 => hk1 x9.1 ((hP k9 x9 h9).lt) id)
  generalize H1 = H at hP hS ⊢
  refine lv_aload_n hx hb dL_law_462 rfl (lv_at hl 2 rfl) ?_
  refine lv_aload_n hx hb dL_law_463 rfl (lv_at hl 0 rfl) ?_
  refine lv_iload hx hb dL_law_464 (lv_at hl 4 rfl) ?_
  refine lv_iconst (v := 1) hx hb dL_law_466 (by decide) ?_
  refine lv_iadd hx hb dL_law_467 ?_
  refine ow_topi (y := 1) (by decide) ?_
  refine va_sld hx hb hX hbl hbA hS (vp_in_nI (n := 1) (N := 6) (by decide) (by decide)) dL_law_468 ?_
  refine ow_topi (y := xs 1) (congrArg xs (by decide)) ?_
  have hPc := hP.sub (ws' := [(y, .inr (16, v.1)), ((v.2 1), .inl (cI, 1280, .inl (fun _ => 0)))]) [3, 4] rfl
  have hDc := hD.sub (ws' := [(y, .inr (16, v.1)), ((v.2 1), .inl (cI, 1280, .inl (fun _ => 0)))]) [3, 4] (by decide) rfl
  have hFc := va_free (wc := [(y, .inr (16, v.1)), ((v.2 1), .inl (cI, 1280, .inl (fun _ => 0)))]) hD hS hA [3, 4] rfl
  refine va_calli (va_runV (As := [.int (xs 1)]) (rest := [.int 0]) ⟨hx, hb, hml, hown, hts⟩ (kf_X13_drop l dC dI cI cB cJ cZ y H.size v.1 hv.1 (v.2 1) (hv.2.at 20 rfl) (xs 1)) (cwV 1 hts gw_X13_drop rfl rfl rfl (by decide +kernel) ⟨(Nat.le_of_ble_eq_true rfl), (Nat.le_of_ble_eq_true rfl)⟩) ⟨fun a U g mk q => by obtain ⟨q0, q1, qP, qK, qD⟩ := q; exact ⟨q0, q1, qP, va_K.moved (u := U) (U := U.calling g mk a) (Vm.Alike.refl U.vm) qK, qD⟩, va_recv hK hPc (ci := 16) (q0 := 0) rfl rfl, fun U hU hW => ⟨rfl, by rw [hU], by rw [hU]; exact hPc, va_K.moved hW.alike hK, hDc.weaken (fun _ _ _ _ => trivial)⟩⟩ rfl rfl hl.1 rfl (lv_room (Nat.le_of_ble_eq_true rfl)) dL_law_469 ⟨(Nat.le_of_ble_eq_true rfl), (Nat.le_of_ble_eq_true rfl)⟩) hS (fun q _ h => hFc q h) hFc (fun r9 g9 t H1 locs ht hvm hw hB hz1 hk1 hS => ?_)
  obtain ⟨hP1, hD1⟩ := hB
  rw [ht] at hP1
  obtain ⟨hP, hD⟩ := va_join (wr := [(x, .inr (14, [.ref (u 0), .ref (u 1), .ref (u 2), .ref (u 3), .ref (u 4), .ref (u 5), .ref (u 6), .ref (u 7), .ref (u 8), .ref (u 9), .ref (u 10), .ref (u 11), .ref (u 12), .ref (u 13), .ref (u 14), .ref (u 15), .ref (u 16), .ref (u 17), .ref (u 18)])), ((u 0), .inr (6, [.ref (u 19), .ref (u 20), .ref (u 21), .ref (u 22), .int 0])), ((u 20), .inl (cB, 40, .inl (fun _ => 0))), (qo, .inl (cJ, 1, .inr (.inl (fun _ => 0))))]) (w1 := [(y, .inr (16, g9))]) hP hD [3, 4] [0, 1, 2, 5] rfl rfl (by decide) (by decide) hk1 hFc hP1 hD1
  generalize H1 = H at hP hS ⊢
  have hP : va_P (dC, dI) vwCl [(x, .inr (14, [.ref (u 0), .ref (u 1), .ref (u 2), .ref (u 3), .ref (u 4), .ref (u 5), .ref (u 6), .ref (u 7), .ref (u 8), .ref (u 9), .ref (u 10), .ref (u 11), .ref (u 12), .ref (u 13), .ref (u 14), .ref (u 15), .ref (u 16), .ref (u 17), .ref (u 18)])), ((u 0), .inr (6, [.ref (u 19), .ref (u 20), .ref (u 21), .ref (u 22), .int 0])), ((u 20), .inl (cB, 40, .inl (fun _ => 0))), (qo, .inl (cJ, 1, .inr (.inl (fun _ => 0)))), (y, .inr (16, g9))] H := hP
  have hD : va_D (fun q : Nat => s.heap.size ≤ q) [(x, .inr (14, [.ref (u 0), .ref (u 1), .ref (u 2), .ref (u 3), .ref (u 4), .ref (u 5), .ref (u 6), .ref (u 7), .ref (u 8), .ref (u 9), .ref (u 10), .ref (u 11), .ref (u 12), .ref (u 13), .ref (u 14), .ref (u 15), .ref (u 16), .ref (u 17), .ref (u 18)])), ((u 0), .inr (6, [.ref (u 19), .ref (u 20), .ref (u 21), .ref (u 22), .int 0])), ((u 20), .inl (cB, 40, .inl (fun _ => 0))), (qo, .inl (cJ, 1, .inr (.inl (fun _ => 0)))), (y, .inr (16, g9))] := hD
  obtain ⟨hr9, hg0⟩ := hw
  subst hr9
  refine lv_icmp_eq (tgt := 2616) hx hb dL_law_472 (by decide) (fun _ => ?_) (fun c9 => absurd (rfl) c9)
  exact lc_fin C0 hS (lv_sub hl [0, 4] rfl) (Nat.le_of_ble_eq_true rfl) (Nat.le_of_ble_eq_true rfl)
theorem dL_law_477 : decode cL_law 477 = .ok (.aload_n 1, 1) := by decide +kernel
theorem dL_law_478 : decode cL_law 478 = .ok (.aload_n 0, 1) := by decide +kernel
theorem dL_law_479 : decode cL_law 479 = .ok (.iload 4, 2) := by decide +kernel
theorem dL_law_481 : decode cL_law 481 = .ok (.iconst 1, 1) := by decide +kernel
theorem dL_law_482 : decode cL_law 482 = .ok (.iadd, 1) := by decide +kernel
theorem dL_law_483 : decode cL_law 483 = .ok (.iaload, 1) := by decide +kernel
theorem dL_law_484 : decode cL_law 484 = .ok (.invokevirtual 157, 3) := by decide +kernel
theorem dL_law_487 : decode cL_law 487 = .ok (.aload_n 2, 1) := by decide +kernel
theorem dL_law_488 : decode cL_law 488 = .ok (.aload_n 0, 1) := by decide +kernel
theorem dL_law_489 : decode cL_law 489 = .ok (.iload 4, 2) := by decide +kernel
theorem dL_law_491 : decode cL_law 491 = .ok (.iconst 1, 1) := by decide +kernel
theorem dL_law_492 : decode cL_law 492 = .ok (.iadd, 1) := by decide +kernel
theorem dL_law_493 : decode cL_law 493 = .ok (.iaload, 1) := by decide +kernel
theorem dL_law_494 : decode cL_law 494 = .ok (.invokevirtual 160, 3) := by decide +kernel
theorem dL_law_497 : decode cL_law 497 = .ok (.if_icmp .eq 2119, 3) := by decide +kernel
theorem dL_law_500 : decode cL_law 500 = .ok (.iconst 0, 1) := by decide +kernel
theorem dL_law_501 : decode cL_law 501 = .ok (.ireturn, 1) := by decide +kernel
set_option maxHeartbeats 4000000 in
set_option maxRecDepth 100000 in
theorem lc_dropBraid {p : Program} {l : Launch} {e : Env} {s : State} {m : MethodId} {below : List Frame} {meth : Method} {c : Code} {b : Nat} {xs : Nat → Int32} {dC : Nat → ClassId} {dI : Nat → Nat → Nat} {cI cB cJ cZ : ClassId} {sa : Nat → Nat} (C0 : lw_At p s m meth c b 6 xs) (hG : ow_LG l s dC dI cI cB cJ cZ sa) {x y qo : Nat} {u : Nat → Nat} {v : List Value × (Nat → Nat)} (hv : kn_X13_init v) {H : Heap} {locs : List Loc} {ls : Array Slot} (hP : va_P (dC, dI) vwCl (wd_X11_init cI cB cJ x u ++ (wd_X13_init cI cB y v ++ [(qo, .inl (cJ, 1, .inr (.inl (fun _ => 0))))])) H) (hD : va_D (fun q : Nat => s.heap.size ≤ q) (wd_X11_init cI cB cJ x u ++ (wd_X13_init cI cB y v ++ [(qo, .inl (cJ, 1, .inr (.inl (fun _ => 0))))]))) (hS : va_S (fun q : Nat => s.heap.size ≤ q) s.heap H locs) (hl : lv_has ls 8 [(0, .ref b), (1, .ref x), (2, .ref y), (3, .ref qo), (4, .int 0)]) : W p l e room_1 s m #[Value.ref b] below meth c H locs 694 1334208 (lw_Z below #[Value.ref b] s) (F0 m 477 ls []) := by
  obtain ⟨hx, hb, hr, hml, hown, hts, hX, hbl, hlocks, hgv⟩ := id C0
  have hown : s.vm.findClass RL = some m.cls := hown
  have hA : ∀ q : Nat, s.heap.size ≤ q → (fun q : Nat => s.heap.size ≤ q) q := fun _ h => h
  have hbA : ¬ (fun q : Nat => s.heap.size ≤ q) b := Nat.not_le.mpr hbl
  have hK := hG.2.1
  have hP := hP.sub (ws' := [(x, .inr (14, [.ref (u 0), .ref (u 1), .ref (u 2), .ref (u 3), .ref (u 4), .ref (u 5), .ref (u 6), .ref (u 7), .ref (u 8), .ref (u 9), .ref (u 10), .ref (u 11), .ref (u 12), .ref (u 13), .ref (u 14), .ref (u 15), .ref (u 16), .ref (u 17), .ref (u 18)])), ((u 14), .inl (cI, 20, .inl (fun _ => 0))), (y, .inr (16, v.1)), ((v.2 9), .inl (cI, 20, .inl (fun _ => 0))), (qo, .inl (cJ, 1, .inr (.inl (fun _ => 0))))]) [0, 59, 60, 70, 71] rfl
  have hD := hD.sub (ws' := [(x, .inr (14, [.ref (u 0), .ref (u 1), .ref (u 2), .ref (u 3), .ref (u 4), .ref (u 5), .ref (u 6), .ref (u 7), .ref (u 8), .ref (u 9), .ref (u 10), .ref (u 11), .ref (u 12), .ref (u 13), .ref (u 14), .ref (u 15), .ref (u 16), .ref (u 17), .ref (u 18)])), ((u 14), .inl (cI, 20, .inl (fun _ => 0))), (y, .inr (16, v.1)), ((v.2 9), .inl (cI, 20, .inl (fun _ => 0))), (qo, .inl (cJ, 1, .inr (.inl (fun _ => 0))))]) [0, 59, 60, 70, 71] (by decide) rfl
  refine lv_aload_n hx hb dL_law_477 rfl (lv_at hl 1 rfl) ?_
  refine lv_aload_n hx hb dL_law_478 rfl (lv_at hl 0 rfl) ?_
  refine lv_iload hx hb dL_law_479 (lv_at hl 4 rfl) ?_
  refine lv_iconst (v := 1) hx hb dL_law_481 (by decide) ?_
  refine lv_iadd hx hb dL_law_482 ?_
  refine ow_topi (y := 1) (by decide) ?_
  refine va_sld hx hb hX hbl hbA hS (vp_in_nI (n := 1) (N := 6) (by decide) (by decide)) dL_law_483 ?_
  refine ow_topi (y := xs 1) (congrArg xs (by decide)) ?_
  have hPc := hP.sub (ws' := [(x, .inr (14, [.ref (u 0), .ref (u 1), .ref (u 2), .ref (u 3), .ref (u 4), .ref (u 5), .ref (u 6), .ref (u 7), .ref (u 8), .ref (u 9), .ref (u 10), .ref (u 11), .ref (u 12), .ref (u 13), .ref (u 14), .ref (u 15), .ref (u 16), .ref (u 17), .ref (u 18)])), ((u 14), .inl (cI, 20, .inl (fun _ => 0)))]) [0, 1] rfl
  refine va_calli (va_runV (As := [.int (xs 1)]) (rest := []) ⟨hx, hb, hml, hown, hts⟩ (kf_X11_dropBraid l dC dI cI cB cJ cZ x u (xs 1)) (cwV 1 hts gw_X11_dropBraid rfl rfl rfl (by decide +kernel) ⟨(Nat.le_of_ble_eq_true rfl), (Nat.le_of_ble_eq_true rfl)⟩) ⟨fun a U g mk q => by obtain ⟨q0, qP, qK⟩ := q; exact ⟨q0, qP, va_K.moved (u := U) (U := U.calling g mk a) (Vm.Alike.refl U.vm) qK⟩, va_recv hK hPc (ci := 14) (q0 := 0) rfl rfl, fun U hU hW => ⟨rfl, by rw [hU]; exact hPc, va_K.moved hW.alike hK⟩⟩ rfl rfl hl.1 rfl (lv_room (Nat.le_of_ble_eq_true rfl)) dL_law_484 ⟨(Nat.le_of_ble_eq_true rfl), (Nat.le_of_ble_eq_true rfl)⟩) hS (fun q _ h => h.elim) (fun q h => h.elim) (fun r7 un t H1 locs ht hvm hw hB hz1 hk1 hS => ?_)
  obtain rfl : r7 = 0 := hw
  have hP := hP.kept (fun k9 x9 h9 => hk1 x9.1 ((hP k9 x9 h9).lt) id)
  generalize H1 = H at hP hS ⊢
  refine lv_aload_n hx hb dL_law_487 rfl (lv_at hl 2 rfl) ?_
  refine lv_aload_n hx hb dL_law_488 rfl (lv_at hl 0 rfl) ?_
  refine lv_iload hx hb dL_law_489 (lv_at hl 4 rfl) ?_
  refine lv_iconst (v := 1) hx hb dL_law_491 (by decide) ?_
  refine lv_iadd hx hb dL_law_492 ?_
  refine ow_topi (y := 1) (by decide) ?_
  refine va_sld hx hb hX hbl hbA hS (vp_in_nI (n := 1) (N := 6) (by decide) (by decide)) dL_law_493 ?_
  refine ow_topi (y := xs 1) (congrArg xs (by decide)) ?_
  have hPc := hP.sub (ws' := [(y, .inr (16, v.1)), ((v.2 9), .inl (cI, 20, .inl (fun _ => 0)))]) [2, 3] rfl
  have hDc := hD.sub (ws' := [(y, .inr (16, v.1)), ((v.2 9), .inl (cI, 20, .inl (fun _ => 0)))]) [2, 3] (by decide) rfl
  have hFc := va_free (wc := [(y, .inr (16, v.1)), ((v.2 9), .inl (cI, 20, .inl (fun _ => 0)))]) hD hS hA [2, 3] rfl
  refine va_calli (va_runV (As := [.int (xs 1)]) (rest := [.int 0]) ⟨hx, hb, hml, hown, hts⟩ (kf_X13_dropBraid l dC dI cI cB cJ cZ y H.size v.1 hv.1 (v.2 9) (hv.2.at 11 rfl) (xs 1)) (cwV 1 hts gw_X13_dropBraid rfl rfl rfl (by decide +kernel) ⟨(Nat.le_of_ble_eq_true rfl), (Nat.le_of_ble_eq_true rfl)⟩) ⟨fun a U g mk q => by obtain ⟨q0, q1, qP, qK, qD⟩ := q; exact ⟨q0, q1, qP, va_K.moved (u := U) (U := U.calling g mk a) (Vm.Alike.refl U.vm) qK, qD⟩, va_recv hK hPc (ci := 16) (q0 := 0) rfl rfl, fun U hU hW => ⟨rfl, by rw [hU], by rw [hU]; exact hPc, va_K.moved hW.alike hK, hDc.weaken (fun _ _ _ _ => trivial)⟩⟩ rfl rfl hl.1 rfl (lv_room (Nat.le_of_ble_eq_true rfl)) dL_law_494 ⟨(Nat.le_of_ble_eq_true rfl), (Nat.le_of_ble_eq_true rfl)⟩) hS (fun q _ h => hFc q h) hFc (fun r9 g9 t H1 locs ht hvm hw hB hz1 hk1 hS => ?_)
  obtain ⟨hP1, hD1⟩ := hB
  rw [ht] at hP1
  obtain ⟨hP, hD⟩ := va_join (wr := [(x, .inr (14, [.ref (u 0), .ref (u 1), .ref (u 2), .ref (u 3), .ref (u 4), .ref (u 5), .ref (u 6), .ref (u 7), .ref (u 8), .ref (u 9), .ref (u 10), .ref (u 11), .ref (u 12), .ref (u 13), .ref (u 14), .ref (u 15), .ref (u 16), .ref (u 17), .ref (u 18)])), ((u 14), .inl (cI, 20, .inl (fun _ => 0))), (qo, .inl (cJ, 1, .inr (.inl (fun _ => 0))))]) (w1 := [(y, .inr (16, g9))]) hP hD [2, 3] [0, 1, 4] rfl rfl (by decide) (by decide) hk1 hFc hP1 hD1
  generalize H1 = H at hP hS ⊢
  have hP : va_P (dC, dI) vwCl [(x, .inr (14, [.ref (u 0), .ref (u 1), .ref (u 2), .ref (u 3), .ref (u 4), .ref (u 5), .ref (u 6), .ref (u 7), .ref (u 8), .ref (u 9), .ref (u 10), .ref (u 11), .ref (u 12), .ref (u 13), .ref (u 14), .ref (u 15), .ref (u 16), .ref (u 17), .ref (u 18)])), ((u 14), .inl (cI, 20, .inl (fun _ => 0))), (qo, .inl (cJ, 1, .inr (.inl (fun _ => 0)))), (y, .inr (16, g9))] H := hP
  have hD : va_D (fun q : Nat => s.heap.size ≤ q) [(x, .inr (14, [.ref (u 0), .ref (u 1), .ref (u 2), .ref (u 3), .ref (u 4), .ref (u 5), .ref (u 6), .ref (u 7), .ref (u 8), .ref (u 9), .ref (u 10), .ref (u 11), .ref (u 12), .ref (u 13), .ref (u 14), .ref (u 15), .ref (u 16), .ref (u 17), .ref (u 18)])), ((u 14), .inl (cI, 20, .inl (fun _ => 0))), (qo, .inl (cJ, 1, .inr (.inl (fun _ => 0)))), (y, .inr (16, g9))] := hD
  obtain ⟨hr9, hg0⟩ := hw
  subst hr9
  refine lv_icmp_eq (tgt := 2616) hx hb dL_law_497 (by decide) (fun _ => ?_) (fun c9 => absurd (rfl) c9)
  exact lc_fin C0 hS (lv_sub hl [0, 4] rfl) (Nat.le_of_ble_eq_true rfl) (Nat.le_of_ble_eq_true rfl)
theorem dL_law_502 : decode cL_law 502 = .ok (.aload_n 1, 1) := by decide +kernel
theorem dL_law_503 : decode cL_law 503 = .ok (.aload_n 0, 1) := by decide +kernel
theorem dL_law_504 : decode cL_law 504 = .ok (.iload 4, 2) := by decide +kernel
theorem dL_law_506 : decode cL_law 506 = .ok (.iconst 1, 1) := by decide +kernel
theorem dL_law_507 : decode cL_law 507 = .ok (.iadd, 1) := by decide +kernel
theorem dL_law_508 : decode cL_law 508 = .ok (.iaload, 1) := by decide +kernel
theorem dL_law_509 : decode cL_law 509 = .ok (.aload_n 0, 1) := by decide +kernel
theorem dL_law_510 : decode cL_law 510 = .ok (.iload 4, 2) := by decide +kernel
theorem dL_law_512 : decode cL_law 512 = .ok (.iconst 2, 1) := by decide +kernel
theorem dL_law_513 : decode cL_law 513 = .ok (.iadd, 1) := by decide +kernel
theorem dL_law_514 : decode cL_law 514 = .ok (.iaload, 1) := by decide +kernel
theorem dL_law_515 : decode cL_law 515 = .ok (.aload_n 3, 1) := by decide +kernel
theorem dL_law_516 : decode cL_law 516 = .ok (.invokestatic 161, 3) := by decide +kernel
theorem dL_law_519 : decode cL_law 519 = .ok (.istore 5, 2) := by decide +kernel
theorem dL_law_521 : decode cL_law 521 = .ok (.aload_n 2, 1) := by decide +kernel
theorem dL_law_522 : decode cL_law 522 = .ok (.aload_n 0, 1) := by decide +kernel
theorem dL_law_523 : decode cL_law 523 = .ok (.iload 4, 2) := by decide +kernel
theorem dL_law_525 : decode cL_law 525 = .ok (.iconst 1, 1) := by decide +kernel
theorem dL_law_526 : decode cL_law 526 = .ok (.iadd, 1) := by decide +kernel
theorem dL_law_527 : decode cL_law 527 = .ok (.iaload, 1) := by decide +kernel
theorem dL_law_528 : decode cL_law 528 = .ok (.aload_n 0, 1) := by decide +kernel
theorem dL_law_529 : decode cL_law 529 = .ok (.iload 4, 2) := by decide +kernel
theorem dL_law_531 : decode cL_law 531 = .ok (.iconst 2, 1) := by decide +kernel
theorem dL_law_532 : decode cL_law 532 = .ok (.iadd, 1) := by decide +kernel
theorem dL_law_533 : decode cL_law 533 = .ok (.iaload, 1) := by decide +kernel
theorem dL_law_534 : decode cL_law 534 = .ok (.invokevirtual 164, 3) := by decide +kernel
theorem dL_law_537 : decode cL_law 537 = .ok (.istore 6, 2) := by decide +kernel
theorem dL_law_539 : decode cL_law 539 = .ok (.aload_n 2, 1) := by decide +kernel
theorem dL_law_540 : decode cL_law 540 = .ok (.invokevirtual 137, 3) := by decide +kernel
theorem dL_law_543 : decode cL_law 543 = .ok (.iload 5, 2) := by decide +kernel
theorem dL_law_545 : decode cL_law 545 = .ok (.if_icmp .eq 5, 3) := by decide +kernel
theorem dL_law_548 : decode cL_law 548 = .ok (.iconst 0, 1) := by decide +kernel
theorem dL_law_549 : decode cL_law 549 = .ok (.ireturn, 1) := by decide +kernel
theorem dL_law_550 : decode cL_law 550 = .ok (.iload 5, 2) := by decide +kernel
theorem dL_law_552 : decode cL_law 552 = .ok (.ifCond .ne 15, 3) := by decide +kernel
theorem dL_law_555 : decode cL_law 555 = .ok (.aload_n 3, 1) := by decide +kernel
theorem dL_law_556 : decode cL_law 556 = .ok (.iconst 0, 1) := by decide +kernel
theorem dL_law_557 : decode cL_law 557 = .ok (.laload, 1) := by decide +kernel
theorem dL_law_558 : decode cL_law 558 = .ok (.iload 6, 2) := by decide +kernel
theorem dL_law_560 : decode cL_law 560 = .ok (.i2l, 1) := by decide +kernel
theorem dL_law_561 : decode cL_law 561 = .ok (.lcmp, 1) := by decide +kernel
theorem dL_law_562 : decode cL_law 562 = .ok (.ifCond .eq 5, 3) := by decide +kernel
theorem dL_law_565 : decode cL_law 565 = .ok (.iconst 0, 1) := by decide +kernel
theorem dL_law_566 : decode cL_law 566 = .ok (.ireturn, 1) := by decide +kernel
theorem dL_law_567 : decode cL_law 567 = .ok (.goto 2049, 3) := by decide +kernel
set_option maxHeartbeats 4000000 in
set_option maxRecDepth 100000 in
theorem lc_figure {p : Program} {l : Launch} {e : Env} {s : State} {m : MethodId} {below : List Frame} {meth : Method} {c : Code} {b : Nat} {xs : Nat → Int32} {dC : Nat → ClassId} {dI : Nat → Nat → Nat} {cI cB cJ cZ : ClassId} {sa : Nat → Nat} (C0 : lw_At p s m meth c b 6 xs) (hG : ow_LG l s dC dI cI cB cJ cZ sa) {x y qo : Nat} {u : Nat → Nat} {v : List Value × (Nat → Nat)} (hv : kn_X13_init v) {H : Heap} {locs : List Loc} {ls : Array Slot} (hP : va_P (dC, dI) vwCl (wd_X11_init cI cB cJ x u ++ (wd_X13_init cI cB y v ++ [(qo, .inl (cJ, 1, .inr (.inl (fun _ => 0))))])) H) (hD : va_D (fun q : Nat => s.heap.size ≤ q) (wd_X11_init cI cB cJ x u ++ (wd_X13_init cI cB y v ++ [(qo, .inl (cJ, 1, .inr (.inl (fun _ => 0))))]))) (hS : va_S (fun q : Nat => s.heap.size ≤ q) s.heap H locs) (hl : lv_has ls 8 [(0, .ref b), (1, .ref x), (2, .ref y), (3, .ref qo), (4, .int 0)]) : W p l e room_1 s m #[Value.ref b] below meth c H locs 694 1334208 (lw_Z below #[Value.ref b] s) (F0 m 502 ls []) := by
  obtain ⟨hx, hb, hr, hml, hown, hts, hX, hbl, hlocks, hgv⟩ := id C0
  have hown : s.vm.findClass RL = some m.cls := hown
  have hA : ∀ q : Nat, s.heap.size ≤ q → (fun q : Nat => s.heap.size ≤ q) q := fun _ h => h
  have hbA : ¬ (fun q : Nat => s.heap.size ≤ q) b := Nat.not_le.mpr hbl
  have hK := hG.2.1
  have hP := hP.sub (ws' := [(x, .inr (14, [.ref (u 0), .ref (u 1), .ref (u 2), .ref (u 3), .ref (u 4), .ref (u 5), .ref (u 6), .ref (u 7), .ref (u 8), .ref (u 9), .ref (u 10), .ref (u 11), .ref (u 12), .ref (u 13), .ref (u 14), .ref (u 15), .ref (u 16), .ref (u 17), .ref (u 18)])), ((u 0), .inr (6, [.ref (u 19), .ref (u 20), .ref (u 21), .ref (u 22), .int 0])), ((u 20), .inl (cB, 40, .inl (fun _ => 0))), (y, .inr (16, v.1)), ((v.2 1), .inl (cI, 1280, .inl (fun _ => 0))), (qo, .inl (cJ, 1, .inr (.inl (fun _ => 0))))]) [0, 1, 3, 60, 62, 71] rfl
  have hD := hD.sub (ws' := [(x, .inr (14, [.ref (u 0), .ref (u 1), .ref (u 2), .ref (u 3), .ref (u 4), .ref (u 5), .ref (u 6), .ref (u 7), .ref (u 8), .ref (u 9), .ref (u 10), .ref (u 11), .ref (u 12), .ref (u 13), .ref (u 14), .ref (u 15), .ref (u 16), .ref (u 17), .ref (u 18)])), ((u 0), .inr (6, [.ref (u 19), .ref (u 20), .ref (u 21), .ref (u 22), .int 0])), ((u 20), .inl (cB, 40, .inl (fun _ => 0))), (y, .inr (16, v.1)), ((v.2 1), .inl (cI, 1280, .inl (fun _ => 0))), (qo, .inl (cJ, 1, .inr (.inl (fun _ => 0))))]) [0, 1, 3, 60, 62, 71] (by decide) rfl
  refine lv_aload_n hx hb dL_law_502 rfl (lv_at hl 1 rfl) ?_
  refine lv_aload_n hx hb dL_law_503 rfl (lv_at hl 0 rfl) ?_
  refine lv_iload hx hb dL_law_504 (lv_at hl 4 rfl) ?_
  refine lv_iconst (v := 1) hx hb dL_law_506 (by decide) ?_
  refine lv_iadd hx hb dL_law_507 ?_
  refine ow_topi (y := 1) (by decide) ?_
  refine va_sld hx hb hX hbl hbA hS (vp_in_nI (n := 1) (N := 6) (by decide) (by decide)) dL_law_508 ?_
  refine ow_topi (y := xs 1) (congrArg xs (by decide)) ?_
  refine lv_aload_n hx hb dL_law_509 rfl (lv_at hl 0 rfl) ?_
  refine lv_iload hx hb dL_law_510 (lv_at hl 4 rfl) ?_
  refine lv_iconst (v := 2) hx hb dL_law_512 (by decide) ?_
  refine lv_iadd hx hb dL_law_513 ?_
  refine ow_topi (y := 2) (by decide) ?_
  refine va_sld hx hb hX hbl hbA hS (vp_in_nI (n := 2) (N := 6) (by decide) (by decide)) dL_law_514 ?_
  refine ow_topi (y := xs 2) (congrArg xs (by decide)) ?_
  refine lv_aload_n hx hb dL_law_515 rfl (lv_at hl 3 rfl) ?_
  have hPc := hP.sub (ws' := [(x, .inr (14, [.ref (u 0), .ref (u 1), .ref (u 2), .ref (u 3), .ref (u 4), .ref (u 5), .ref (u 6), .ref (u 7), .ref (u 8), .ref (u 9), .ref (u 10), .ref (u 11), .ref (u 12), .ref (u 13), .ref (u 14), .ref (u 15), .ref (u 16), .ref (u 17), .ref (u 18)])), ((u 0), .inr (6, [.ref (u 19), .ref (u 20), .ref (u 21), .ref (u 22), .int 0])), ((u 20), .inl (cB, 40, .inl (fun _ => 0)))]) [0, 1, 2] rfl
  refine vx_calli (vx_runSX (As := [.ref x, .int (xs 1), .int (xs 2), .ref qo]) (rest := []) ⟨hx, hb, hml, hown, hts⟩ (kf_L_figure l dC dI cI cB cJ cZ hG.1 x (sa 0) qo u (xs 1) (xs 2)) (vx_cwSW 4 hts gw_L_figure rfl rfl rfl (by decide +kernel) ⟨(Nat.le_of_ble_eq_true rfl), (Nat.le_of_ble_eq_true rfl)⟩) ⟨fun a U g mk q => by obtain ⟨q0, qP, qK, qT⟩ := q; exact ⟨q0, qP, va_K.moved (u := U) (U := U.calling g mk a) (Vm.Alike.refl U.vm) qK, qT.same rfl rfl⟩, fun U hU hW => ⟨rfl, by rw [hU]; exact hPc, va_K.moved hW.alike hK, (hG.2.2.2.1).to hS hW hU (fun q h => h.elim)⟩⟩ rfl rfl hl.1 rfl (lv_room (Nat.le_of_ble_eq_true rfl)) dL_law_516 ⟨(Nat.le_of_ble_eq_true rfl), (Nat.le_of_ble_eq_true rfl)⟩) hS (fun q _ h => h.elim) (fun q h => h.elim) (fun q _ h => h.elim) (fun E ce q9 u9 t H1 locs1 ht hvm hp hB hz hk hS hce hcv hcl => hp.elim) (fun r7 g7 t H1 locs ht hvm hw hB hz1 hk1 hS => ?_)
  obtain rfl : r7 = 1 := hw
  have hP := hP.kept (fun k9 x9 h9 => hk1 x9.1 ((hP k9 x9 h9).lt) id)
  generalize H1 = H at hP hS ⊢
  refine W.widen (k := 695) (n := 1334214) (Nat.le_of_ble_eq_true rfl) (Nat.le_of_ble_eq_true rfl) ?_
  refine lv_istore (lv' := [(5, .int 1), (0, .ref b), (1, .ref x), (2, .ref y), (3, .ref qo), (4, .int 0)]) hx hb dL_law_519 hl (by decide) rfl (fun ls hl => ?_)
  refine lv_aload_n hx hb dL_law_521 rfl (lv_at hl 3 rfl) ?_
  refine lv_aload_n hx hb dL_law_522 rfl (lv_at hl 1 rfl) ?_
  refine lv_iload hx hb dL_law_523 (lv_at hl 5 rfl) ?_
  refine lv_iconst (v := 1) hx hb dL_law_525 (by decide) ?_
  refine lv_iadd hx hb dL_law_526 ?_
  refine ow_topi (y := 1) (by decide) ?_
  refine va_sld hx hb hX hbl hbA hS (vp_in_nI (n := 1) (N := 6) (by decide) (by decide)) dL_law_527 ?_
  refine ow_topi (y := xs 1) (congrArg xs (by decide)) ?_
  refine lv_aload_n hx hb dL_law_528 rfl (lv_at hl 1 rfl) ?_
  refine lv_iload hx hb dL_law_529 (lv_at hl 5 rfl) ?_
  refine lv_iconst (v := 2) hx hb dL_law_531 (by decide) ?_
  refine lv_iadd hx hb dL_law_532 ?_
  refine ow_topi (y := 2) (by decide) ?_
  refine va_sld hx hb hX hbl hbA hS (vp_in_nI (n := 2) (N := 6) (by decide) (by decide)) dL_law_533 ?_
  refine ow_topi (y := xs 2) (congrArg xs (by decide)) ?_
  have hPc := hP.sub (ws' := [(y, .inr (16, v.1)), ((v.2 1), .inl (cI, 1280, .inl (fun _ => 0)))]) [3, 4] rfl
  have hDc := hD.sub (ws' := [(y, .inr (16, v.1)), ((v.2 1), .inl (cI, 1280, .inl (fun _ => 0)))]) [3, 4] (by decide) rfl
  have hFc := va_free (wc := [(y, .inr (16, v.1)), ((v.2 1), .inl (cI, 1280, .inl (fun _ => 0)))]) hD hS hA [3, 4] rfl
  refine va_calli (va_runV (As := [.int (xs 1), .int (xs 2)]) (rest := []) ⟨hx, hb, hml, hown, hts⟩ (kf_X13_figure l dC dI cI cB cJ cZ y (v.2 1) H.size v.1 hv.1 (hv.2.at 20 rfl) (xs 1) (xs 2)) (cwV 2 hts gw_X13_figure rfl rfl rfl (by decide +kernel) ⟨(Nat.le_of_ble_eq_true rfl), (Nat.le_of_ble_eq_true rfl)⟩) ⟨fun a U g mk q => by obtain ⟨q0, q1, qP, qK, qD⟩ := q; exact ⟨q0, q1, qP, va_K.moved (u := U) (U := U.calling g mk a) (Vm.Alike.refl U.vm) qK, qD⟩, va_recv hK hPc (ci := 16) (q0 := 0) rfl rfl, fun U hU hW => ⟨rfl, by rw [hU], by rw [hU]; exact hPc, va_K.moved hW.alike hK, hDc.weaken (fun _ _ _ _ => trivial)⟩⟩ rfl rfl hl.1 rfl (lv_room (Nat.le_of_ble_eq_true rfl)) dL_law_534 ⟨(Nat.le_of_ble_eq_true rfl), (Nat.le_of_ble_eq_true rfl)⟩) hS (fun q _ h => hFc q h) hFc (fun r9 g9 t H1 locs ht hvm hw hB hz1 hk1 hS => ?_)
  obtain ⟨hP1, hD1⟩ := hB
  rw [ht] at hP1
  obtain ⟨hP, hD⟩ := va_join (wr := [(x, .inr (14, [.ref (u 0), .ref (u 1), .ref (u 2), .ref (u 3), .ref (u 4), .ref (u 5), .ref (u 6), .ref (u 7), .ref (u 8), .ref (u 9), .ref (u 10), .ref (u 11), .ref (u 12), .ref (u 13), .ref (u 14), .ref (u 15), .ref (u 16), .ref (u 17), .ref (u 18)])), ((u 0), .inr (6, [.ref (u 19), .ref (u 20), .ref (u 21), .ref (u 22), .int 0])), ((u 20), .inl (cB, 40, .inl (fun _ => 0))), (qo, .inl (cJ, 1, .inr (.inl (fun _ => 0))))]) (w1 := [(y, .inr (16, g9))]) hP hD [3, 4] [0, 1, 2, 5] rfl rfl (by decide) (by decide) hk1 hFc hP1 hD1
  generalize H1 = H at hP hS ⊢
  have hP : va_P (dC, dI) vwCl [(x, .inr (14, [.ref (u 0), .ref (u 1), .ref (u 2), .ref (u 3), .ref (u 4), .ref (u 5), .ref (u 6), .ref (u 7), .ref (u 8), .ref (u 9), .ref (u 10), .ref (u 11), .ref (u 12), .ref (u 13), .ref (u 14), .ref (u 15), .ref (u 16), .ref (u 17), .ref (u 18)])), ((u 0), .inr (6, [.ref (u 19), .ref (u 20), .ref (u 21), .ref (u 22), .int 0])), ((u 20), .inl (cB, 40, .inl (fun _ => 0))), (qo, .inl (cJ, 1, .inr (.inl (fun _ => 0)))), (y, .inr (16, g9))] H := hP
  have hD : va_D (fun q : Nat => s.heap.size ≤ q) [(x, .inr (14, [.ref (u 0), .ref (u 1), .ref (u 2), .ref (u 3), .ref (u 4), .ref (u 5), .ref (u 6), .ref (u 7), .ref (u 8), .ref (u 9), .ref (u 10), .ref (u 11), .ref (u 12), .ref (u 13), .ref (u 14), .ref (u 15), .ref (u 16), .ref (u 17), .ref (u 18)])), ((u 0), .inr (6, [.ref (u 19), .ref (u 20), .ref (u 21), .ref (u 22), .int 0])), ((u 20), .inl (cB, 40, .inl (fun _ => 0))), (qo, .inl (cJ, 1, .inr (.inl (fun _ => 0)))), (y, .inr (16, g9))] := hD
  obtain ⟨hr9, hg0⟩ := hw
  subst hr9
  refine lv_istore (lv' := [(6, .int 0), (5, .int 1), (0, .ref b), (1, .ref x), (2, .ref y), (3, .ref qo), (4, .int 0)]) hx hb dL_law_537 hl (by decide) rfl (fun ls hl => ?_)
  refine lv_aload_n hx hb dL_law_539 rfl (lv_at hl 4 rfl) ?_
  have hPc := hP.sub (ws' := [(y, .inr (16, g9))]) [4] rfl
  refine va_calli (va_runV (As := []) (rest := []) ⟨hx, hb, hml, hown, hts⟩ (kf_X13_thrownN l dC dI cI cB cJ cZ y g9 1 hg0) (cwV 0 hts gw_X13_thrown rfl rfl rfl (by decide +kernel) ⟨(Nat.le_of_ble_eq_true rfl), (Nat.le_of_ble_eq_true rfl)⟩) ⟨fun a U g mk q => by obtain ⟨q0, qP, qK⟩ := q; exact ⟨q0, qP, va_K.moved (u := U) (U := U.calling g mk a) (Vm.Alike.refl U.vm) qK⟩, va_recv hK hPc (ci := 16) (q0 := 0) rfl rfl, fun U hU hW => ⟨rfl, by rw [hU]; exact hPc, va_K.moved hW.alike hK⟩⟩ rfl rfl hl.1 rfl (lv_room (Nat.le_of_ble_eq_true rfl)) dL_law_540 ⟨(Nat.le_of_ble_eq_true rfl), (Nat.le_of_ble_eq_true rfl)⟩) hS (fun q _ h => h.elim) (fun q h => h.elim) (fun r8 un t H1 locs ht hvm hw8 hB hz1 hk1 hS => ?_)
  obtain rfl : r8 = 1 := hw8
  have hP := hP.kept (fun k9 x9 h9 => hk1 x9.1 ((hP k9 x9 h9).lt) id)
  generalize H1 = H at hP hS ⊢
  refine lv_iload hx hb dL_law_543 (lv_at hl 1 rfl) ?_
  refine lv_icmp_eq (tgt := 550) hx hb dL_law_545 (by decide) (fun _ => ?_) (fun c9 => absurd (rfl) c9)
  refine lv_iload hx hb dL_law_550 (lv_at hl 1 rfl) ?_
  refine lv_if_ne (tgt := 567) hx hb dL_law_552 (by decide) (fun _ => ?_) (fun c9 => absurd c9 (by decide))
  refine lv_goto (tgt := 2616) hx hb dL_law_567 (by decide) ?_
  exact lc_fin C0 hS (lv_sub hl [2, 6] rfl) (Nat.le_of_ble_eq_true rfl) (Nat.le_of_ble_eq_true rfl)
theorem dL_law_570 : decode cL_law 570 = .ok (.aload_n 1, 1) := by decide +kernel
theorem dL_law_571 : decode cL_law 571 = .ok (.aload_n 0, 1) := by decide +kernel
theorem dL_law_572 : decode cL_law 572 = .ok (.iload 4, 2) := by decide +kernel
theorem dL_law_574 : decode cL_law 574 = .ok (.iconst 1, 1) := by decide +kernel
theorem dL_law_575 : decode cL_law 575 = .ok (.iadd, 1) := by decide +kernel
theorem dL_law_576 : decode cL_law 576 = .ok (.iaload, 1) := by decide +kernel
theorem dL_law_577 : decode cL_law 577 = .ok (.aload_n 0, 1) := by decide +kernel
theorem dL_law_578 : decode cL_law 578 = .ok (.iload 4, 2) := by decide +kernel
theorem dL_law_580 : decode cL_law 580 = .ok (.iconst 2, 1) := by decide +kernel
theorem dL_law_581 : decode cL_law 581 = .ok (.iadd, 1) := by decide +kernel
theorem dL_law_582 : decode cL_law 582 = .ok (.iaload, 1) := by decide +kernel
theorem dL_law_583 : decode cL_law 583 = .ok (.aload_n 0, 1) := by decide +kernel
theorem dL_law_584 : decode cL_law 584 = .ok (.iload 4, 2) := by decide +kernel
theorem dL_law_586 : decode cL_law 586 = .ok (.iconst 3, 1) := by decide +kernel
theorem dL_law_587 : decode cL_law 587 = .ok (.iadd, 1) := by decide +kernel
theorem dL_law_588 : decode cL_law 588 = .ok (.iaload, 1) := by decide +kernel
theorem dL_law_589 : decode cL_law 589 = .ok (.aload_n 3, 1) := by decide +kernel
theorem dL_law_590 : decode cL_law 590 = .ok (.invokestatic 165, 3) := by decide +kernel
theorem dL_law_593 : decode cL_law 593 = .ok (.istore 5, 2) := by decide +kernel
theorem dL_law_595 : decode cL_law 595 = .ok (.aload_n 2, 1) := by decide +kernel
theorem dL_law_596 : decode cL_law 596 = .ok (.aload_n 0, 1) := by decide +kernel
theorem dL_law_597 : decode cL_law 597 = .ok (.iload 4, 2) := by decide +kernel
theorem dL_law_599 : decode cL_law 599 = .ok (.iconst 1, 1) := by decide +kernel
theorem dL_law_600 : decode cL_law 600 = .ok (.iadd, 1) := by decide +kernel
theorem dL_law_601 : decode cL_law 601 = .ok (.iaload, 1) := by decide +kernel
theorem dL_law_602 : decode cL_law 602 = .ok (.aload_n 0, 1) := by decide +kernel
theorem dL_law_603 : decode cL_law 603 = .ok (.iload 4, 2) := by decide +kernel
theorem dL_law_605 : decode cL_law 605 = .ok (.iconst 2, 1) := by decide +kernel
theorem dL_law_606 : decode cL_law 606 = .ok (.iadd, 1) := by decide +kernel
theorem dL_law_607 : decode cL_law 607 = .ok (.iaload, 1) := by decide +kernel
theorem dL_law_608 : decode cL_law 608 = .ok (.aload_n 0, 1) := by decide +kernel
theorem dL_law_609 : decode cL_law 609 = .ok (.iload 4, 2) := by decide +kernel
theorem dL_law_611 : decode cL_law 611 = .ok (.iconst 3, 1) := by decide +kernel
theorem dL_law_612 : decode cL_law 612 = .ok (.iadd, 1) := by decide +kernel
theorem dL_law_613 : decode cL_law 613 = .ok (.iaload, 1) := by decide +kernel
theorem dL_law_614 : decode cL_law 614 = .ok (.invokevirtual 168, 3) := by decide +kernel
theorem dL_law_617 : decode cL_law 617 = .ok (.istore 6, 2) := by decide +kernel
theorem dL_law_619 : decode cL_law 619 = .ok (.aload_n 2, 1) := by decide +kernel
theorem dL_law_620 : decode cL_law 620 = .ok (.invokevirtual 137, 3) := by decide +kernel
theorem dL_law_623 : decode cL_law 623 = .ok (.iload 5, 2) := by decide +kernel
theorem dL_law_625 : decode cL_law 625 = .ok (.if_icmp .eq 5, 3) := by decide +kernel
theorem dL_law_628 : decode cL_law 628 = .ok (.iconst 0, 1) := by decide +kernel
theorem dL_law_629 : decode cL_law 629 = .ok (.ireturn, 1) := by decide +kernel
theorem dL_law_630 : decode cL_law 630 = .ok (.iload 5, 2) := by decide +kernel
theorem dL_law_632 : decode cL_law 632 = .ok (.ifCond .ne 15, 3) := by decide +kernel
theorem dL_law_635 : decode cL_law 635 = .ok (.aload_n 3, 1) := by decide +kernel
theorem dL_law_636 : decode cL_law 636 = .ok (.iconst 0, 1) := by decide +kernel
theorem dL_law_637 : decode cL_law 637 = .ok (.laload, 1) := by decide +kernel
theorem dL_law_638 : decode cL_law 638 = .ok (.iload 6, 2) := by decide +kernel
theorem dL_law_640 : decode cL_law 640 = .ok (.i2l, 1) := by decide +kernel
theorem dL_law_641 : decode cL_law 641 = .ok (.lcmp, 1) := by decide +kernel
theorem dL_law_642 : decode cL_law 642 = .ok (.ifCond .eq 5, 3) := by decide +kernel
theorem dL_law_645 : decode cL_law 645 = .ok (.iconst 0, 1) := by decide +kernel
theorem dL_law_646 : decode cL_law 646 = .ok (.ireturn, 1) := by decide +kernel
theorem dL_law_647 : decode cL_law 647 = .ok (.goto 1969, 3) := by decide +kernel
set_option maxHeartbeats 4000000 in
set_option maxRecDepth 100000 in
theorem lc_visit {p : Program} {l : Launch} {e : Env} {s : State} {m : MethodId} {below : List Frame} {meth : Method} {c : Code} {b : Nat} {xs : Nat → Int32} {dC : Nat → ClassId} {dI : Nat → Nat → Nat} {cI cB cJ cZ : ClassId} {sa : Nat → Nat} (C0 : lw_At p s m meth c b 6 xs) (hG : ow_LG l s dC dI cI cB cJ cZ sa) {x y qo : Nat} {u : Nat → Nat} {v : List Value × (Nat → Nat)} (hv : kn_X13_init v) {H : Heap} {locs : List Loc} {ls : Array Slot} (hP : va_P (dC, dI) vwCl (wd_X11_init cI cB cJ x u ++ (wd_X13_init cI cB y v ++ [(qo, .inl (cJ, 1, .inr (.inl (fun _ => 0))))])) H) (hD : va_D (fun q : Nat => s.heap.size ≤ q) (wd_X11_init cI cB cJ x u ++ (wd_X13_init cI cB y v ++ [(qo, .inl (cJ, 1, .inr (.inl (fun _ => 0))))]))) (hS : va_S (fun q : Nat => s.heap.size ≤ q) s.heap H locs) (hl : lv_has ls 8 [(0, .ref b), (1, .ref x), (2, .ref y), (3, .ref qo), (4, .int 0)]) : W p l e room_1 s m #[Value.ref b] below meth c H locs 694 1334208 (lw_Z below #[Value.ref b] s) (F0 m 570 ls []) := by
  obtain ⟨hx, hb, hr, hml, hown, hts, hX, hbl, hlocks, hgv⟩ := id C0
  have hown : s.vm.findClass RL = some m.cls := hown
  have hA : ∀ q : Nat, s.heap.size ≤ q → (fun q : Nat => s.heap.size ≤ q) q := fun _ h => h
  have hbA : ¬ (fun q : Nat => s.heap.size ≤ q) b := Nat.not_le.mpr hbl
  have hK := hG.2.1
  have hP := hP.sub (ws' := [(x, .inr (14, [.ref (u 0), .ref (u 1), .ref (u 2), .ref (u 3), .ref (u 4), .ref (u 5), .ref (u 6), .ref (u 7), .ref (u 8), .ref (u 9), .ref (u 10), .ref (u 11), .ref (u 12), .ref (u 13), .ref (u 14), .ref (u 15), .ref (u 16), .ref (u 17), .ref (u 18)])), ((u 0), .inr (6, [.ref (u 19), .ref (u 20), .ref (u 21), .ref (u 22), .int 0])), ((u 20), .inl (cB, 40, .inl (fun _ => 0))), (y, .inr (16, v.1)), ((v.2 1), .inl (cI, 1280, .inl (fun _ => 0))), (qo, .inl (cJ, 1, .inr (.inl (fun _ => 0))))]) [0, 1, 3, 60, 62, 71] rfl
  have hD := hD.sub (ws' := [(x, .inr (14, [.ref (u 0), .ref (u 1), .ref (u 2), .ref (u 3), .ref (u 4), .ref (u 5), .ref (u 6), .ref (u 7), .ref (u 8), .ref (u 9), .ref (u 10), .ref (u 11), .ref (u 12), .ref (u 13), .ref (u 14), .ref (u 15), .ref (u 16), .ref (u 17), .ref (u 18)])), ((u 0), .inr (6, [.ref (u 19), .ref (u 20), .ref (u 21), .ref (u 22), .int 0])), ((u 20), .inl (cB, 40, .inl (fun _ => 0))), (y, .inr (16, v.1)), ((v.2 1), .inl (cI, 1280, .inl (fun _ => 0))), (qo, .inl (cJ, 1, .inr (.inl (fun _ => 0))))]) [0, 1, 3, 60, 62, 71] (by decide) rfl
  refine lv_aload_n hx hb dL_law_570 rfl (lv_at hl 1 rfl) ?_
  refine lv_aload_n hx hb dL_law_571 rfl (lv_at hl 0 rfl) ?_
  refine lv_iload hx hb dL_law_572 (lv_at hl 4 rfl) ?_
  refine lv_iconst (v := 1) hx hb dL_law_574 (by decide) ?_
  refine lv_iadd hx hb dL_law_575 ?_
  refine ow_topi (y := 1) (by decide) ?_
  refine va_sld hx hb hX hbl hbA hS (vp_in_nI (n := 1) (N := 6) (by decide) (by decide)) dL_law_576 ?_
  refine ow_topi (y := xs 1) (congrArg xs (by decide)) ?_
  refine lv_aload_n hx hb dL_law_577 rfl (lv_at hl 0 rfl) ?_
  refine lv_iload hx hb dL_law_578 (lv_at hl 4 rfl) ?_
  refine lv_iconst (v := 2) hx hb dL_law_580 (by decide) ?_
  refine lv_iadd hx hb dL_law_581 ?_
  refine ow_topi (y := 2) (by decide) ?_
  refine va_sld hx hb hX hbl hbA hS (vp_in_nI (n := 2) (N := 6) (by decide) (by decide)) dL_law_582 ?_
  refine ow_topi (y := xs 2) (congrArg xs (by decide)) ?_
  refine lv_aload_n hx hb dL_law_583 rfl (lv_at hl 0 rfl) ?_
  refine lv_iload hx hb dL_law_584 (lv_at hl 4 rfl) ?_
  refine lv_iconst (v := 3) hx hb dL_law_586 (by decide) ?_
  refine lv_iadd hx hb dL_law_587 ?_
  refine ow_topi (y := 3) (by decide) ?_
  refine va_sld hx hb hX hbl hbA hS (vp_in_nI (n := 3) (N := 6) (by decide) (by decide)) dL_law_588 ?_
  refine ow_topi (y := xs 3) (congrArg xs (by decide)) ?_
  refine lv_aload_n hx hb dL_law_589 rfl (lv_at hl 3 rfl) ?_
  have hPc := hP.sub (ws' := [(x, .inr (14, [.ref (u 0), .ref (u 1), .ref (u 2), .ref (u 3), .ref (u 4), .ref (u 5), .ref (u 6), .ref (u 7), .ref (u 8), .ref (u 9), .ref (u 10), .ref (u 11), .ref (u 12), .ref (u 13), .ref (u 14), .ref (u 15), .ref (u 16), .ref (u 17), .ref (u 18)])), ((u 0), .inr (6, [.ref (u 19), .ref (u 20), .ref (u 21), .ref (u 22), .int 0])), ((u 20), .inl (cB, 40, .inl (fun _ => 0)))]) [0, 1, 2] rfl
  refine vx_calli (vx_runSX (As := [.ref x, .int (xs 1), .int (xs 2), .int (xs 3), .ref qo]) (rest := []) ⟨hx, hb, hml, hown, hts⟩ (kf_L_visit l dC dI cI cB cJ cZ hG.1 x (sa 0) qo u (xs 1) (xs 2) (xs 3)) (vx_cwSW 5 hts gw_L_visit rfl rfl rfl (by decide +kernel) ⟨(Nat.le_of_ble_eq_true rfl), (Nat.le_of_ble_eq_true rfl)⟩) ⟨fun a U g mk q => by obtain ⟨q0, qP, qK, qT⟩ := q; exact ⟨q0, qP, va_K.moved (u := U) (U := U.calling g mk a) (Vm.Alike.refl U.vm) qK, qT.same rfl rfl⟩, fun U hU hW => ⟨rfl, by rw [hU]; exact hPc, va_K.moved hW.alike hK, (hG.2.2.2.1).to hS hW hU (fun q h => h.elim)⟩⟩ rfl rfl hl.1 rfl (lv_room (Nat.le_of_ble_eq_true rfl)) dL_law_590 ⟨(Nat.le_of_ble_eq_true rfl), (Nat.le_of_ble_eq_true rfl)⟩) hS (fun q _ h => h.elim) (fun q h => h.elim) (fun q _ h => h.elim) (fun E ce q9 u9 t H1 locs1 ht hvm hp hB hz hk hS hce hcv hcl => hp.elim) (fun r7 g7 t H1 locs ht hvm hw hB hz1 hk1 hS => ?_)
  obtain rfl : r7 = 1 := hw
  have hP := hP.kept (fun k9 x9 h9 => hk1 x9.1 ((hP k9 x9 h9).lt) id)
  generalize H1 = H at hP hS ⊢
  refine W.widen (k := 695) (n := 1334214) (Nat.le_of_ble_eq_true rfl) (Nat.le_of_ble_eq_true rfl) ?_
  refine lv_istore (lv' := [(5, .int 1), (0, .ref b), (1, .ref x), (2, .ref y), (3, .ref qo), (4, .int 0)]) hx hb dL_law_593 hl (by decide) rfl (fun ls hl => ?_)
  refine lv_aload_n hx hb dL_law_595 rfl (lv_at hl 3 rfl) ?_
  refine lv_aload_n hx hb dL_law_596 rfl (lv_at hl 1 rfl) ?_
  refine lv_iload hx hb dL_law_597 (lv_at hl 5 rfl) ?_
  refine lv_iconst (v := 1) hx hb dL_law_599 (by decide) ?_
  refine lv_iadd hx hb dL_law_600 ?_
  refine ow_topi (y := 1) (by decide) ?_
  refine va_sld hx hb hX hbl hbA hS (vp_in_nI (n := 1) (N := 6) (by decide) (by decide)) dL_law_601 ?_
  refine ow_topi (y := xs 1) (congrArg xs (by decide)) ?_
  refine lv_aload_n hx hb dL_law_602 rfl (lv_at hl 1 rfl) ?_
  refine lv_iload hx hb dL_law_603 (lv_at hl 5 rfl) ?_
  refine lv_iconst (v := 2) hx hb dL_law_605 (by decide) ?_
  refine lv_iadd hx hb dL_law_606 ?_
  refine ow_topi (y := 2) (by decide) ?_
  refine va_sld hx hb hX hbl hbA hS (vp_in_nI (n := 2) (N := 6) (by decide) (by decide)) dL_law_607 ?_
  refine ow_topi (y := xs 2) (congrArg xs (by decide)) ?_
  refine lv_aload_n hx hb dL_law_608 rfl (lv_at hl 1 rfl) ?_
  refine lv_iload hx hb dL_law_609 (lv_at hl 5 rfl) ?_
  refine lv_iconst (v := 3) hx hb dL_law_611 (by decide) ?_
  refine lv_iadd hx hb dL_law_612 ?_
  refine ow_topi (y := 3) (by decide) ?_
  refine va_sld hx hb hX hbl hbA hS (vp_in_nI (n := 3) (N := 6) (by decide) (by decide)) dL_law_613 ?_
  refine ow_topi (y := xs 3) (congrArg xs (by decide)) ?_
  have hPc := hP.sub (ws' := [(y, .inr (16, v.1)), ((v.2 1), .inl (cI, 1280, .inl (fun _ => 0)))]) [3, 4] rfl
  have hDc := hD.sub (ws' := [(y, .inr (16, v.1)), ((v.2 1), .inl (cI, 1280, .inl (fun _ => 0)))]) [3, 4] (by decide) rfl
  have hFc := va_free (wc := [(y, .inr (16, v.1)), ((v.2 1), .inl (cI, 1280, .inl (fun _ => 0)))]) hD hS hA [3, 4] rfl
  refine va_calli (va_runV (As := [.int (xs 1), .int (xs 2), .int (xs 3)]) (rest := []) ⟨hx, hb, hml, hown, hts⟩ (kf_X13_visit l dC dI cI cB cJ cZ y (v.2 1) H.size v.1 hv.1 (hv.2.at 20 rfl) (xs 1) (xs 2) (xs 3)) (cwV 3 hts gw_X13_visit rfl rfl rfl (by decide +kernel) ⟨(Nat.le_of_ble_eq_true rfl), (Nat.le_of_ble_eq_true rfl)⟩) ⟨fun a U g mk q => by obtain ⟨q0, q1, qP, qK, qD⟩ := q; exact ⟨q0, q1, qP, va_K.moved (u := U) (U := U.calling g mk a) (Vm.Alike.refl U.vm) qK, qD⟩, va_recv hK hPc (ci := 16) (q0 := 0) rfl rfl, fun U hU hW => ⟨rfl, by rw [hU], by rw [hU]; exact hPc, va_K.moved hW.alike hK, hDc.weaken (fun _ _ _ _ => trivial)⟩⟩ rfl rfl hl.1 rfl (lv_room (Nat.le_of_ble_eq_true rfl)) dL_law_614 ⟨(Nat.le_of_ble_eq_true rfl), (Nat.le_of_ble_eq_true rfl)⟩) hS (fun q _ h => hFc q h) hFc (fun r9 g9 t H1 locs ht hvm hw hB hz1 hk1 hS => ?_)
  obtain ⟨hP1, hD1⟩ := hB
  rw [ht] at hP1
  obtain ⟨hP, hD⟩ := va_join (wr := [(x, .inr (14, [.ref (u 0), .ref (u 1), .ref (u 2), .ref (u 3), .ref (u 4), .ref (u 5), .ref (u 6), .ref (u 7), .ref (u 8), .ref (u 9), .ref (u 10), .ref (u 11), .ref (u 12), .ref (u 13), .ref (u 14), .ref (u 15), .ref (u 16), .ref (u 17), .ref (u 18)])), ((u 0), .inr (6, [.ref (u 19), .ref (u 20), .ref (u 21), .ref (u 22), .int 0])), ((u 20), .inl (cB, 40, .inl (fun _ => 0))), (qo, .inl (cJ, 1, .inr (.inl (fun _ => 0))))]) (w1 := [(y, .inr (16, g9))]) hP hD [3, 4] [0, 1, 2, 5] rfl rfl (by decide) (by decide) hk1 hFc hP1 hD1
  generalize H1 = H at hP hS ⊢
  have hP : va_P (dC, dI) vwCl [(x, .inr (14, [.ref (u 0), .ref (u 1), .ref (u 2), .ref (u 3), .ref (u 4), .ref (u 5), .ref (u 6), .ref (u 7), .ref (u 8), .ref (u 9), .ref (u 10), .ref (u 11), .ref (u 12), .ref (u 13), .ref (u 14), .ref (u 15), .ref (u 16), .ref (u 17), .ref (u 18)])), ((u 0), .inr (6, [.ref (u 19), .ref (u 20), .ref (u 21), .ref (u 22), .int 0])), ((u 20), .inl (cB, 40, .inl (fun _ => 0))), (qo, .inl (cJ, 1, .inr (.inl (fun _ => 0)))), (y, .inr (16, g9))] H := hP
  have hD : va_D (fun q : Nat => s.heap.size ≤ q) [(x, .inr (14, [.ref (u 0), .ref (u 1), .ref (u 2), .ref (u 3), .ref (u 4), .ref (u 5), .ref (u 6), .ref (u 7), .ref (u 8), .ref (u 9), .ref (u 10), .ref (u 11), .ref (u 12), .ref (u 13), .ref (u 14), .ref (u 15), .ref (u 16), .ref (u 17), .ref (u 18)])), ((u 0), .inr (6, [.ref (u 19), .ref (u 20), .ref (u 21), .ref (u 22), .int 0])), ((u 20), .inl (cB, 40, .inl (fun _ => 0))), (qo, .inl (cJ, 1, .inr (.inl (fun _ => 0)))), (y, .inr (16, g9))] := hD
  obtain ⟨hr9, hg0⟩ := hw
  subst hr9
  refine lv_istore (lv' := [(6, .int 0), (5, .int 1), (0, .ref b), (1, .ref x), (2, .ref y), (3, .ref qo), (4, .int 0)]) hx hb dL_law_617 hl (by decide) rfl (fun ls hl => ?_)
  refine lv_aload_n hx hb dL_law_619 rfl (lv_at hl 4 rfl) ?_
  have hPc := hP.sub (ws' := [(y, .inr (16, g9))]) [4] rfl
  refine va_calli (va_runV (As := []) (rest := []) ⟨hx, hb, hml, hown, hts⟩ (kf_X13_thrownN l dC dI cI cB cJ cZ y g9 1 hg0) (cwV 0 hts gw_X13_thrown rfl rfl rfl (by decide +kernel) ⟨(Nat.le_of_ble_eq_true rfl), (Nat.le_of_ble_eq_true rfl)⟩) ⟨fun a U g mk q => by obtain ⟨q0, qP, qK⟩ := q; exact ⟨q0, qP, va_K.moved (u := U) (U := U.calling g mk a) (Vm.Alike.refl U.vm) qK⟩, va_recv hK hPc (ci := 16) (q0 := 0) rfl rfl, fun U hU hW => ⟨rfl, by rw [hU]; exact hPc, va_K.moved hW.alike hK⟩⟩ rfl rfl hl.1 rfl (lv_room (Nat.le_of_ble_eq_true rfl)) dL_law_620 ⟨(Nat.le_of_ble_eq_true rfl), (Nat.le_of_ble_eq_true rfl)⟩) hS (fun q _ h => h.elim) (fun q h => h.elim) (fun r8 un t H1 locs ht hvm hw8 hB hz1 hk1 hS => ?_)
  obtain rfl : r8 = 1 := hw8
  have hP := hP.kept (fun k9 x9 h9 => hk1 x9.1 ((hP k9 x9 h9).lt) id)
  generalize H1 = H at hP hS ⊢
  refine lv_iload hx hb dL_law_623 (lv_at hl 1 rfl) ?_
  refine lv_icmp_eq (tgt := 630) hx hb dL_law_625 (by decide) (fun _ => ?_) (fun c9 => absurd (rfl) c9)
  refine lv_iload hx hb dL_law_630 (lv_at hl 1 rfl) ?_
  refine lv_if_ne (tgt := 647) hx hb dL_law_632 (by decide) (fun _ => ?_) (fun c9 => absurd c9 (by decide))
  refine lv_goto (tgt := 2616) hx hb dL_law_647 (by decide) ?_
  exact lc_fin C0 hS (lv_sub hl [2, 6] rfl) (Nat.le_of_ble_eq_true rfl) (Nat.le_of_ble_eq_true rfl)
theorem dL_law_650 : decode cL_law 650 = .ok (.aload_n 1, 1) := by decide +kernel
theorem dL_law_651 : decode cL_law 651 = .ok (.aload_n 0, 1) := by decide +kernel
theorem dL_law_652 : decode cL_law 652 = .ok (.iload 4, 2) := by decide +kernel
theorem dL_law_654 : decode cL_law 654 = .ok (.iconst 1, 1) := by decide +kernel
theorem dL_law_655 : decode cL_law 655 = .ok (.iadd, 1) := by decide +kernel
theorem dL_law_656 : decode cL_law 656 = .ok (.iaload, 1) := by decide +kernel
theorem dL_law_657 : decode cL_law 657 = .ok (.aload_n 0, 1) := by decide +kernel
theorem dL_law_658 : decode cL_law 658 = .ok (.iload 4, 2) := by decide +kernel
theorem dL_law_660 : decode cL_law 660 = .ok (.iconst 2, 1) := by decide +kernel
theorem dL_law_661 : decode cL_law 661 = .ok (.iadd, 1) := by decide +kernel
theorem dL_law_662 : decode cL_law 662 = .ok (.iaload, 1) := by decide +kernel
theorem dL_law_663 : decode cL_law 663 = .ok (.aload_n 0, 1) := by decide +kernel
theorem dL_law_664 : decode cL_law 664 = .ok (.iload 4, 2) := by decide +kernel
theorem dL_law_666 : decode cL_law 666 = .ok (.iconst 3, 1) := by decide +kernel
theorem dL_law_667 : decode cL_law 667 = .ok (.iadd, 1) := by decide +kernel
theorem dL_law_668 : decode cL_law 668 = .ok (.iaload, 1) := by decide +kernel
theorem dL_law_669 : decode cL_law 669 = .ok (.aload_n 3, 1) := by decide +kernel
theorem dL_law_670 : decode cL_law 670 = .ok (.invokestatic 169, 3) := by decide +kernel
theorem dL_law_673 : decode cL_law 673 = .ok (.istore 5, 2) := by decide +kernel
theorem dL_law_675 : decode cL_law 675 = .ok (.aload_n 2, 1) := by decide +kernel
theorem dL_law_676 : decode cL_law 676 = .ok (.aload_n 0, 1) := by decide +kernel
theorem dL_law_677 : decode cL_law 677 = .ok (.iload 4, 2) := by decide +kernel
theorem dL_law_679 : decode cL_law 679 = .ok (.iconst 1, 1) := by decide +kernel
theorem dL_law_680 : decode cL_law 680 = .ok (.iadd, 1) := by decide +kernel
theorem dL_law_681 : decode cL_law 681 = .ok (.iaload, 1) := by decide +kernel
theorem dL_law_682 : decode cL_law 682 = .ok (.aload_n 0, 1) := by decide +kernel
theorem dL_law_683 : decode cL_law 683 = .ok (.iload 4, 2) := by decide +kernel
theorem dL_law_685 : decode cL_law 685 = .ok (.iconst 2, 1) := by decide +kernel
theorem dL_law_686 : decode cL_law 686 = .ok (.iadd, 1) := by decide +kernel
theorem dL_law_687 : decode cL_law 687 = .ok (.iaload, 1) := by decide +kernel
theorem dL_law_688 : decode cL_law 688 = .ok (.aload_n 0, 1) := by decide +kernel
theorem dL_law_689 : decode cL_law 689 = .ok (.iload 4, 2) := by decide +kernel
theorem dL_law_691 : decode cL_law 691 = .ok (.iconst 3, 1) := by decide +kernel
theorem dL_law_692 : decode cL_law 692 = .ok (.iadd, 1) := by decide +kernel
theorem dL_law_693 : decode cL_law 693 = .ok (.iaload, 1) := by decide +kernel
theorem dL_law_694 : decode cL_law 694 = .ok (.invokevirtual 171, 3) := by decide +kernel
theorem dL_law_697 : decode cL_law 697 = .ok (.istore 6, 2) := by decide +kernel
theorem dL_law_699 : decode cL_law 699 = .ok (.aload_n 2, 1) := by decide +kernel
theorem dL_law_700 : decode cL_law 700 = .ok (.invokevirtual 137, 3) := by decide +kernel
theorem dL_law_703 : decode cL_law 703 = .ok (.iload 5, 2) := by decide +kernel
theorem dL_law_705 : decode cL_law 705 = .ok (.if_icmp .eq 5, 3) := by decide +kernel
theorem dL_law_708 : decode cL_law 708 = .ok (.iconst 0, 1) := by decide +kernel
theorem dL_law_709 : decode cL_law 709 = .ok (.ireturn, 1) := by decide +kernel
theorem dL_law_710 : decode cL_law 710 = .ok (.iload 5, 2) := by decide +kernel
theorem dL_law_712 : decode cL_law 712 = .ok (.ifCond .ne 15, 3) := by decide +kernel
theorem dL_law_715 : decode cL_law 715 = .ok (.aload_n 3, 1) := by decide +kernel
theorem dL_law_716 : decode cL_law 716 = .ok (.iconst 0, 1) := by decide +kernel
theorem dL_law_717 : decode cL_law 717 = .ok (.laload, 1) := by decide +kernel
theorem dL_law_718 : decode cL_law 718 = .ok (.iload 6, 2) := by decide +kernel
theorem dL_law_720 : decode cL_law 720 = .ok (.i2l, 1) := by decide +kernel
theorem dL_law_721 : decode cL_law 721 = .ok (.lcmp, 1) := by decide +kernel
theorem dL_law_722 : decode cL_law 722 = .ok (.ifCond .eq 5, 3) := by decide +kernel
theorem dL_law_725 : decode cL_law 725 = .ok (.iconst 0, 1) := by decide +kernel
theorem dL_law_726 : decode cL_law 726 = .ok (.ireturn, 1) := by decide +kernel
theorem dL_law_727 : decode cL_law 727 = .ok (.goto 1889, 3) := by decide +kernel
set_option maxHeartbeats 4000000 in
set_option maxRecDepth 100000 in
theorem lc_linking {p : Program} {l : Launch} {e : Env} {s : State} {m : MethodId} {below : List Frame} {meth : Method} {c : Code} {b : Nat} {xs : Nat → Int32} {dC : Nat → ClassId} {dI : Nat → Nat → Nat} {cI cB cJ cZ : ClassId} {sa : Nat → Nat} (C0 : lw_At p s m meth c b 6 xs) (hG : ow_LG l s dC dI cI cB cJ cZ sa) {x y qo : Nat} {u : Nat → Nat} {v : List Value × (Nat → Nat)} (hv : kn_X13_init v) {H : Heap} {locs : List Loc} {ls : Array Slot} (hP : va_P (dC, dI) vwCl (wd_X11_init cI cB cJ x u ++ (wd_X13_init cI cB y v ++ [(qo, .inl (cJ, 1, .inr (.inl (fun _ => 0))))])) H) (hD : va_D (fun q : Nat => s.heap.size ≤ q) (wd_X11_init cI cB cJ x u ++ (wd_X13_init cI cB y v ++ [(qo, .inl (cJ, 1, .inr (.inl (fun _ => 0))))]))) (hS : va_S (fun q : Nat => s.heap.size ≤ q) s.heap H locs) (hl : lv_has ls 8 [(0, .ref b), (1, .ref x), (2, .ref y), (3, .ref qo), (4, .int 0)]) : W p l e room_1 s m #[Value.ref b] below meth c H locs 694 1334208 (lw_Z below #[Value.ref b] s) (F0 m 650 ls []) := by
  obtain ⟨hx, hb, hr, hml, hown, hts, hX, hbl, hlocks, hgv⟩ := id C0
  have hown : s.vm.findClass RL = some m.cls := hown
  have hA : ∀ q : Nat, s.heap.size ≤ q → (fun q : Nat => s.heap.size ≤ q) q := fun _ h => h
  have hbA : ¬ (fun q : Nat => s.heap.size ≤ q) b := Nat.not_le.mpr hbl
  have hK := hG.2.1
  have hP := hP.sub (ws' := [(x, .inr (14, [.ref (u 0), .ref (u 1), .ref (u 2), .ref (u 3), .ref (u 4), .ref (u 5), .ref (u 6), .ref (u 7), .ref (u 8), .ref (u 9), .ref (u 10), .ref (u 11), .ref (u 12), .ref (u 13), .ref (u 14), .ref (u 15), .ref (u 16), .ref (u 17), .ref (u 18)])), ((u 0), .inr (6, [.ref (u 19), .ref (u 20), .ref (u 21), .ref (u 22), .int 0])), ((u 20), .inl (cB, 40, .inl (fun _ => 0))), (y, .inr (16, v.1)), ((v.2 1), .inl (cI, 1280, .inl (fun _ => 0))), (qo, .inl (cJ, 1, .inr (.inl (fun _ => 0))))]) [0, 1, 3, 60, 62, 71] rfl
  have hD := hD.sub (ws' := [(x, .inr (14, [.ref (u 0), .ref (u 1), .ref (u 2), .ref (u 3), .ref (u 4), .ref (u 5), .ref (u 6), .ref (u 7), .ref (u 8), .ref (u 9), .ref (u 10), .ref (u 11), .ref (u 12), .ref (u 13), .ref (u 14), .ref (u 15), .ref (u 16), .ref (u 17), .ref (u 18)])), ((u 0), .inr (6, [.ref (u 19), .ref (u 20), .ref (u 21), .ref (u 22), .int 0])), ((u 20), .inl (cB, 40, .inl (fun _ => 0))), (y, .inr (16, v.1)), ((v.2 1), .inl (cI, 1280, .inl (fun _ => 0))), (qo, .inl (cJ, 1, .inr (.inl (fun _ => 0))))]) [0, 1, 3, 60, 62, 71] (by decide) rfl
  refine lv_aload_n hx hb dL_law_650 rfl (lv_at hl 1 rfl) ?_
  refine lv_aload_n hx hb dL_law_651 rfl (lv_at hl 0 rfl) ?_
  refine lv_iload hx hb dL_law_652 (lv_at hl 4 rfl) ?_
  refine lv_iconst (v := 1) hx hb dL_law_654 (by decide) ?_
  refine lv_iadd hx hb dL_law_655 ?_
  refine ow_topi (y := 1) (by decide) ?_
  refine va_sld hx hb hX hbl hbA hS (vp_in_nI (n := 1) (N := 6) (by decide) (by decide)) dL_law_656 ?_
  refine ow_topi (y := xs 1) (congrArg xs (by decide)) ?_
  refine lv_aload_n hx hb dL_law_657 rfl (lv_at hl 0 rfl) ?_
  refine lv_iload hx hb dL_law_658 (lv_at hl 4 rfl) ?_
  refine lv_iconst (v := 2) hx hb dL_law_660 (by decide) ?_
  refine lv_iadd hx hb dL_law_661 ?_
  refine ow_topi (y := 2) (by decide) ?_
  refine va_sld hx hb hX hbl hbA hS (vp_in_nI (n := 2) (N := 6) (by decide) (by decide)) dL_law_662 ?_
  refine ow_topi (y := xs 2) (congrArg xs (by decide)) ?_
  refine lv_aload_n hx hb dL_law_663 rfl (lv_at hl 0 rfl) ?_
  refine lv_iload hx hb dL_law_664 (lv_at hl 4 rfl) ?_
  refine lv_iconst (v := 3) hx hb dL_law_666 (by decide) ?_
  refine lv_iadd hx hb dL_law_667 ?_
  refine ow_topi (y := 3) (by decide) ?_
  refine va_sld hx hb hX hbl hbA hS (vp_in_nI (n := 3) (N := 6) (by decide) (by decide)) dL_law_668 ?_
  refine ow_topi (y := xs 3) (congrArg xs (by decide)) ?_
  refine lv_aload_n hx hb dL_law_669 rfl (lv_at hl 3 rfl) ?_
  have hPc := hP.sub (ws' := [(x, .inr (14, [.ref (u 0), .ref (u 1), .ref (u 2), .ref (u 3), .ref (u 4), .ref (u 5), .ref (u 6), .ref (u 7), .ref (u 8), .ref (u 9), .ref (u 10), .ref (u 11), .ref (u 12), .ref (u 13), .ref (u 14), .ref (u 15), .ref (u 16), .ref (u 17), .ref (u 18)])), ((u 0), .inr (6, [.ref (u 19), .ref (u 20), .ref (u 21), .ref (u 22), .int 0])), ((u 20), .inl (cB, 40, .inl (fun _ => 0)))]) [0, 1, 2] rfl
  refine vx_calli (vx_runSX (As := [.ref x, .int (xs 1), .int (xs 2), .int (xs 3), .ref qo]) (rest := []) ⟨hx, hb, hml, hown, hts⟩ (kf_L_linking l dC dI cI cB cJ cZ hG.1 x (sa 0) qo u (xs 1) (xs 2) (xs 3)) (vx_cwSW 5 hts gw_L_linking rfl rfl rfl (by decide +kernel) ⟨(Nat.le_of_ble_eq_true rfl), (Nat.le_of_ble_eq_true rfl)⟩) ⟨fun a U g mk q => by obtain ⟨q0, qP, qK, qT⟩ := q; exact ⟨q0, qP, va_K.moved (u := U) (U := U.calling g mk a) (Vm.Alike.refl U.vm) qK, qT.same rfl rfl⟩, fun U hU hW => ⟨rfl, by rw [hU]; exact hPc, va_K.moved hW.alike hK, (hG.2.2.2.1).to hS hW hU (fun q h => h.elim)⟩⟩ rfl rfl hl.1 rfl (lv_room (Nat.le_of_ble_eq_true rfl)) dL_law_670 ⟨(Nat.le_of_ble_eq_true rfl), (Nat.le_of_ble_eq_true rfl)⟩) hS (fun q _ h => h.elim) (fun q h => h.elim) (fun q _ h => h.elim) (fun E ce q9 u9 t H1 locs1 ht hvm hp hB hz hk hS hce hcv hcl => hp.elim) (fun r7 g7 t H1 locs ht hvm hw hB hz1 hk1 hS => ?_)
  obtain rfl : r7 = 1 := hw
  have hP := hP.kept (fun k9 x9 h9 => hk1 x9.1 ((hP k9 x9 h9).lt) id)
  generalize H1 = H at hP hS ⊢
  refine W.widen (k := 695) (n := 1334214) (Nat.le_of_ble_eq_true rfl) (Nat.le_of_ble_eq_true rfl) ?_
  refine lv_istore (lv' := [(5, .int 1), (0, .ref b), (1, .ref x), (2, .ref y), (3, .ref qo), (4, .int 0)]) hx hb dL_law_673 hl (by decide) rfl (fun ls hl => ?_)
  refine lv_aload_n hx hb dL_law_675 rfl (lv_at hl 3 rfl) ?_
  refine lv_aload_n hx hb dL_law_676 rfl (lv_at hl 1 rfl) ?_
  refine lv_iload hx hb dL_law_677 (lv_at hl 5 rfl) ?_
  refine lv_iconst (v := 1) hx hb dL_law_679 (by decide) ?_
  refine lv_iadd hx hb dL_law_680 ?_
  refine ow_topi (y := 1) (by decide) ?_
  refine va_sld hx hb hX hbl hbA hS (vp_in_nI (n := 1) (N := 6) (by decide) (by decide)) dL_law_681 ?_
  refine ow_topi (y := xs 1) (congrArg xs (by decide)) ?_
  refine lv_aload_n hx hb dL_law_682 rfl (lv_at hl 1 rfl) ?_
  refine lv_iload hx hb dL_law_683 (lv_at hl 5 rfl) ?_
  refine lv_iconst (v := 2) hx hb dL_law_685 (by decide) ?_
  refine lv_iadd hx hb dL_law_686 ?_
  refine ow_topi (y := 2) (by decide) ?_
  refine va_sld hx hb hX hbl hbA hS (vp_in_nI (n := 2) (N := 6) (by decide) (by decide)) dL_law_687 ?_
  refine ow_topi (y := xs 2) (congrArg xs (by decide)) ?_
  refine lv_aload_n hx hb dL_law_688 rfl (lv_at hl 1 rfl) ?_
  refine lv_iload hx hb dL_law_689 (lv_at hl 5 rfl) ?_
  refine lv_iconst (v := 3) hx hb dL_law_691 (by decide) ?_
  refine lv_iadd hx hb dL_law_692 ?_
  refine ow_topi (y := 3) (by decide) ?_
  refine va_sld hx hb hX hbl hbA hS (vp_in_nI (n := 3) (N := 6) (by decide) (by decide)) dL_law_693 ?_
  refine ow_topi (y := xs 3) (congrArg xs (by decide)) ?_
  have hPc := hP.sub (ws' := [(y, .inr (16, v.1)), ((v.2 1), .inl (cI, 1280, .inl (fun _ => 0)))]) [3, 4] rfl
  have hDc := hD.sub (ws' := [(y, .inr (16, v.1)), ((v.2 1), .inl (cI, 1280, .inl (fun _ => 0)))]) [3, 4] (by decide) rfl
  have hFc := va_free (wc := [(y, .inr (16, v.1)), ((v.2 1), .inl (cI, 1280, .inl (fun _ => 0)))]) hD hS hA [3, 4] rfl
  refine va_calli (va_runV (As := [.int (xs 1), .int (xs 2), .int (xs 3)]) (rest := []) ⟨hx, hb, hml, hown, hts⟩ (kf_X13_linking l dC dI cI cB cJ cZ y (v.2 1) H.size v.1 hv.1 (hv.2.at 20 rfl) (xs 1) (xs 2) (xs 3)) (cwV 3 hts gw_X13_linking rfl rfl rfl (by decide +kernel) ⟨(Nat.le_of_ble_eq_true rfl), (Nat.le_of_ble_eq_true rfl)⟩) ⟨fun a U g mk q => by obtain ⟨q0, q1, qP, qK, qD⟩ := q; exact ⟨q0, q1, qP, va_K.moved (u := U) (U := U.calling g mk a) (Vm.Alike.refl U.vm) qK, qD⟩, va_recv hK hPc (ci := 16) (q0 := 0) rfl rfl, fun U hU hW => ⟨rfl, by rw [hU], by rw [hU]; exact hPc, va_K.moved hW.alike hK, hDc.weaken (fun _ _ _ _ => trivial)⟩⟩ rfl rfl hl.1 rfl (lv_room (Nat.le_of_ble_eq_true rfl)) dL_law_694 ⟨(Nat.le_of_ble_eq_true rfl), (Nat.le_of_ble_eq_true rfl)⟩) hS (fun q _ h => hFc q h) hFc (fun r9 g9 t H1 locs ht hvm hw hB hz1 hk1 hS => ?_)
  obtain ⟨hP1, hD1⟩ := hB
  rw [ht] at hP1
  obtain ⟨hP, hD⟩ := va_join (wr := [(x, .inr (14, [.ref (u 0), .ref (u 1), .ref (u 2), .ref (u 3), .ref (u 4), .ref (u 5), .ref (u 6), .ref (u 7), .ref (u 8), .ref (u 9), .ref (u 10), .ref (u 11), .ref (u 12), .ref (u 13), .ref (u 14), .ref (u 15), .ref (u 16), .ref (u 17), .ref (u 18)])), ((u 0), .inr (6, [.ref (u 19), .ref (u 20), .ref (u 21), .ref (u 22), .int 0])), ((u 20), .inl (cB, 40, .inl (fun _ => 0))), (qo, .inl (cJ, 1, .inr (.inl (fun _ => 0))))]) (w1 := [(y, .inr (16, g9))]) hP hD [3, 4] [0, 1, 2, 5] rfl rfl (by decide) (by decide) hk1 hFc hP1 hD1
  generalize H1 = H at hP hS ⊢
  have hP : va_P (dC, dI) vwCl [(x, .inr (14, [.ref (u 0), .ref (u 1), .ref (u 2), .ref (u 3), .ref (u 4), .ref (u 5), .ref (u 6), .ref (u 7), .ref (u 8), .ref (u 9), .ref (u 10), .ref (u 11), .ref (u 12), .ref (u 13), .ref (u 14), .ref (u 15), .ref (u 16), .ref (u 17), .ref (u 18)])), ((u 0), .inr (6, [.ref (u 19), .ref (u 20), .ref (u 21), .ref (u 22), .int 0])), ((u 20), .inl (cB, 40, .inl (fun _ => 0))), (qo, .inl (cJ, 1, .inr (.inl (fun _ => 0)))), (y, .inr (16, g9))] H := hP
  have hD : va_D (fun q : Nat => s.heap.size ≤ q) [(x, .inr (14, [.ref (u 0), .ref (u 1), .ref (u 2), .ref (u 3), .ref (u 4), .ref (u 5), .ref (u 6), .ref (u 7), .ref (u 8), .ref (u 9), .ref (u 10), .ref (u 11), .ref (u 12), .ref (u 13), .ref (u 14), .ref (u 15), .ref (u 16), .ref (u 17), .ref (u 18)])), ((u 0), .inr (6, [.ref (u 19), .ref (u 20), .ref (u 21), .ref (u 22), .int 0])), ((u 20), .inl (cB, 40, .inl (fun _ => 0))), (qo, .inl (cJ, 1, .inr (.inl (fun _ => 0)))), (y, .inr (16, g9))] := hD
  obtain ⟨hr9, hg0⟩ := hw
  subst hr9
  refine lv_istore (lv' := [(6, .int 0), (5, .int 1), (0, .ref b), (1, .ref x), (2, .ref y), (3, .ref qo), (4, .int 0)]) hx hb dL_law_697 hl (by decide) rfl (fun ls hl => ?_)
  refine lv_aload_n hx hb dL_law_699 rfl (lv_at hl 4 rfl) ?_
  have hPc := hP.sub (ws' := [(y, .inr (16, g9))]) [4] rfl
  refine va_calli (va_runV (As := []) (rest := []) ⟨hx, hb, hml, hown, hts⟩ (kf_X13_thrownN l dC dI cI cB cJ cZ y g9 1 hg0) (cwV 0 hts gw_X13_thrown rfl rfl rfl (by decide +kernel) ⟨(Nat.le_of_ble_eq_true rfl), (Nat.le_of_ble_eq_true rfl)⟩) ⟨fun a U g mk q => by obtain ⟨q0, qP, qK⟩ := q; exact ⟨q0, qP, va_K.moved (u := U) (U := U.calling g mk a) (Vm.Alike.refl U.vm) qK⟩, va_recv hK hPc (ci := 16) (q0 := 0) rfl rfl, fun U hU hW => ⟨rfl, by rw [hU]; exact hPc, va_K.moved hW.alike hK⟩⟩ rfl rfl hl.1 rfl (lv_room (Nat.le_of_ble_eq_true rfl)) dL_law_700 ⟨(Nat.le_of_ble_eq_true rfl), (Nat.le_of_ble_eq_true rfl)⟩) hS (fun q _ h => h.elim) (fun q h => h.elim) (fun r8 un t H1 locs ht hvm hw8 hB hz1 hk1 hS => ?_)
  obtain rfl : r8 = 1 := hw8
  have hP := hP.kept (fun k9 x9 h9 => hk1 x9.1 ((hP k9 x9 h9).lt) id)
  generalize H1 = H at hP hS ⊢
  refine lv_iload hx hb dL_law_703 (lv_at hl 1 rfl) ?_
  refine lv_icmp_eq (tgt := 710) hx hb dL_law_705 (by decide) (fun _ => ?_) (fun c9 => absurd (rfl) c9)
  refine lv_iload hx hb dL_law_710 (lv_at hl 1 rfl) ?_
  refine lv_if_ne (tgt := 727) hx hb dL_law_712 (by decide) (fun _ => ?_) (fun c9 => absurd c9 (by decide))
  refine lv_goto (tgt := 2616) hx hb dL_law_727 (by decide) ?_
  exact lc_fin C0 hS (lv_sub hl [2, 6] rfl) (Nat.le_of_ble_eq_true rfl) (Nat.le_of_ble_eq_true rfl)
theorem dL_law_730 : decode cL_law 730 = .ok (.aload_n 1, 1) := by decide +kernel
theorem dL_law_731 : decode cL_law 731 = .ok (.aload_n 0, 1) := by decide +kernel
theorem dL_law_732 : decode cL_law 732 = .ok (.iload 4, 2) := by decide +kernel
theorem dL_law_734 : decode cL_law 734 = .ok (.iconst 1, 1) := by decide +kernel
theorem dL_law_735 : decode cL_law 735 = .ok (.iadd, 1) := by decide +kernel
theorem dL_law_736 : decode cL_law 736 = .ok (.iaload, 1) := by decide +kernel
theorem dL_law_737 : decode cL_law 737 = .ok (.aload_n 0, 1) := by decide +kernel
theorem dL_law_738 : decode cL_law 738 = .ok (.iload 4, 2) := by decide +kernel
theorem dL_law_740 : decode cL_law 740 = .ok (.iconst 2, 1) := by decide +kernel
theorem dL_law_741 : decode cL_law 741 = .ok (.iadd, 1) := by decide +kernel
theorem dL_law_742 : decode cL_law 742 = .ok (.iaload, 1) := by decide +kernel
theorem dL_law_743 : decode cL_law 743 = .ok (.invokevirtual 172, 3) := by decide +kernel
theorem dL_law_746 : decode cL_law 746 = .ok (.aload_n 2, 1) := by decide +kernel
theorem dL_law_747 : decode cL_law 747 = .ok (.aload_n 0, 1) := by decide +kernel
theorem dL_law_748 : decode cL_law 748 = .ok (.iload 4, 2) := by decide +kernel
theorem dL_law_750 : decode cL_law 750 = .ok (.iconst 1, 1) := by decide +kernel
theorem dL_law_751 : decode cL_law 751 = .ok (.iadd, 1) := by decide +kernel
theorem dL_law_752 : decode cL_law 752 = .ok (.iaload, 1) := by decide +kernel
theorem dL_law_753 : decode cL_law 753 = .ok (.aload_n 0, 1) := by decide +kernel
theorem dL_law_754 : decode cL_law 754 = .ok (.iload 4, 2) := by decide +kernel
theorem dL_law_756 : decode cL_law 756 = .ok (.iconst 2, 1) := by decide +kernel
theorem dL_law_757 : decode cL_law 757 = .ok (.iadd, 1) := by decide +kernel
theorem dL_law_758 : decode cL_law 758 = .ok (.iaload, 1) := by decide +kernel
theorem dL_law_759 : decode cL_law 759 = .ok (.invokevirtual 176, 3) := by decide +kernel
theorem dL_law_762 : decode cL_law 762 = .ok (.if_icmp .eq 1854, 3) := by decide +kernel
theorem dL_law_765 : decode cL_law 765 = .ok (.iconst 0, 1) := by decide +kernel
theorem dL_law_766 : decode cL_law 766 = .ok (.ireturn, 1) := by decide +kernel
set_option maxHeartbeats 4000000 in
set_option maxRecDepth 100000 in
theorem lc_alike {p : Program} {l : Launch} {e : Env} {s : State} {m : MethodId} {below : List Frame} {meth : Method} {c : Code} {b : Nat} {xs : Nat → Int32} {dC : Nat → ClassId} {dI : Nat → Nat → Nat} {cI cB cJ cZ : ClassId} {sa : Nat → Nat} (C0 : lw_At p s m meth c b 6 xs) (hG : ow_LG l s dC dI cI cB cJ cZ sa) {x y qo : Nat} {u : Nat → Nat} {v : List Value × (Nat → Nat)} (hv : kn_X13_init v) {H : Heap} {locs : List Loc} {ls : Array Slot} (hP : va_P (dC, dI) vwCl (wd_X11_init cI cB cJ x u ++ (wd_X13_init cI cB y v ++ [(qo, .inl (cJ, 1, .inr (.inl (fun _ => 0))))])) H) (hD : va_D (fun q : Nat => s.heap.size ≤ q) (wd_X11_init cI cB cJ x u ++ (wd_X13_init cI cB y v ++ [(qo, .inl (cJ, 1, .inr (.inl (fun _ => 0))))]))) (hS : va_S (fun q : Nat => s.heap.size ≤ q) s.heap H locs) (hl : lv_has ls 8 [(0, .ref b), (1, .ref x), (2, .ref y), (3, .ref qo), (4, .int 0)]) : W p l e room_1 s m #[Value.ref b] below meth c H locs 694 1334208 (lw_Z below #[Value.ref b] s) (F0 m 730 ls []) := by
  obtain ⟨hx, hb, hr, hml, hown, hts, hX, hbl, hlocks, hgv⟩ := id C0
  have hown : s.vm.findClass RL = some m.cls := hown
  have hA : ∀ q : Nat, s.heap.size ≤ q → (fun q : Nat => s.heap.size ≤ q) q := fun _ h => h
  have hbA : ¬ (fun q : Nat => s.heap.size ≤ q) b := Nat.not_le.mpr hbl
  have hK := hG.2.1
  have hP := hP.sub (ws' := [(x, .inr (14, [.ref (u 0), .ref (u 1), .ref (u 2), .ref (u 3), .ref (u 4), .ref (u 5), .ref (u 6), .ref (u 7), .ref (u 8), .ref (u 9), .ref (u 10), .ref (u 11), .ref (u 12), .ref (u 13), .ref (u 14), .ref (u 15), .ref (u 16), .ref (u 17), .ref (u 18)])), ((u 0), .inr (6, [.ref (u 19), .ref (u 20), .ref (u 21), .ref (u 22), .int 0])), ((u 20), .inl (cB, 40, .inl (fun _ => 0))), (y, .inr (16, v.1)), ((v.2 1), .inl (cI, 1280, .inl (fun _ => 0))), (qo, .inl (cJ, 1, .inr (.inl (fun _ => 0))))]) [0, 1, 3, 60, 62, 71] rfl
  have hD := hD.sub (ws' := [(x, .inr (14, [.ref (u 0), .ref (u 1), .ref (u 2), .ref (u 3), .ref (u 4), .ref (u 5), .ref (u 6), .ref (u 7), .ref (u 8), .ref (u 9), .ref (u 10), .ref (u 11), .ref (u 12), .ref (u 13), .ref (u 14), .ref (u 15), .ref (u 16), .ref (u 17), .ref (u 18)])), ((u 0), .inr (6, [.ref (u 19), .ref (u 20), .ref (u 21), .ref (u 22), .int 0])), ((u 20), .inl (cB, 40, .inl (fun _ => 0))), (y, .inr (16, v.1)), ((v.2 1), .inl (cI, 1280, .inl (fun _ => 0))), (qo, .inl (cJ, 1, .inr (.inl (fun _ => 0))))]) [0, 1, 3, 60, 62, 71] (by decide) rfl
  refine lv_aload_n hx hb dL_law_730 rfl (lv_at hl 1 rfl) ?_
  refine lv_aload_n hx hb dL_law_731 rfl (lv_at hl 0 rfl) ?_
  refine lv_iload hx hb dL_law_732 (lv_at hl 4 rfl) ?_
  refine lv_iconst (v := 1) hx hb dL_law_734 (by decide) ?_
  refine lv_iadd hx hb dL_law_735 ?_
  refine ow_topi (y := 1) (by decide) ?_
  refine va_sld hx hb hX hbl hbA hS (vp_in_nI (n := 1) (N := 6) (by decide) (by decide)) dL_law_736 ?_
  refine ow_topi (y := xs 1) (congrArg xs (by decide)) ?_
  refine lv_aload_n hx hb dL_law_737 rfl (lv_at hl 0 rfl) ?_
  refine lv_iload hx hb dL_law_738 (lv_at hl 4 rfl) ?_
  refine lv_iconst (v := 2) hx hb dL_law_740 (by decide) ?_
  refine lv_iadd hx hb dL_law_741 ?_
  refine ow_topi (y := 2) (by decide) ?_
  refine va_sld hx hb hX hbl hbA hS (vp_in_nI (n := 2) (N := 6) (by decide) (by decide)) dL_law_742 ?_
  refine ow_topi (y := xs 2) (congrArg xs (by decide)) ?_
  have hPc := hP.sub (ws' := [(x, .inr (14, [.ref (u 0), .ref (u 1), .ref (u 2), .ref (u 3), .ref (u 4), .ref (u 5), .ref (u 6), .ref (u 7), .ref (u 8), .ref (u 9), .ref (u 10), .ref (u 11), .ref (u 12), .ref (u 13), .ref (u 14), .ref (u 15), .ref (u 16), .ref (u 17), .ref (u 18)])), ((u 0), .inr (6, [.ref (u 19), .ref (u 20), .ref (u 21), .ref (u 22), .int 0])), ((u 20), .inl (cB, 40, .inl (fun _ => 0)))]) [0, 1, 2] rfl
  refine va_calli (va_runV (As := [.int (xs 1), .int (xs 2)]) (rest := []) ⟨hx, hb, hml, hown, hts⟩ (kf_X11_alike l dC dI cI cB cJ cZ x u (xs 1) (xs 2)) (cwV 2 hts gw_X11_alike rfl rfl rfl (by decide +kernel) ⟨(Nat.le_of_ble_eq_true rfl), (Nat.le_of_ble_eq_true rfl)⟩) ⟨fun a U g mk q => by obtain ⟨q0, qP, qK⟩ := q; exact ⟨q0, qP, va_K.moved (u := U) (U := U.calling g mk a) (Vm.Alike.refl U.vm) qK⟩, va_recv hK hPc (ci := 14) (q0 := 0) rfl rfl, fun U hU hW => ⟨rfl, by rw [hU]; exact hPc, va_K.moved hW.alike hK⟩⟩ rfl rfl hl.1 rfl (lv_room (Nat.le_of_ble_eq_true rfl)) dL_law_743 ⟨(Nat.le_of_ble_eq_true rfl), (Nat.le_of_ble_eq_true rfl)⟩) hS (fun q _ h => h.elim) (fun q h => h.elim) (fun r7 un t H1 locs ht hvm hw hB hz1 hk1 hS => ?_)
  obtain rfl : r7 = 0 := hw
  have hP := hP.kept (fun k9 x9 h9 => hk1 x9.1 ((hP k9 x9 h9).lt) id)
  generalize H1 = H at hP hS ⊢
  refine lv_aload_n hx hb dL_law_746 rfl (lv_at hl 2 rfl) ?_
  refine lv_aload_n hx hb dL_law_747 rfl (lv_at hl 0 rfl) ?_
  refine lv_iload hx hb dL_law_748 (lv_at hl 4 rfl) ?_
  refine lv_iconst (v := 1) hx hb dL_law_750 (by decide) ?_
  refine lv_iadd hx hb dL_law_751 ?_
  refine ow_topi (y := 1) (by decide) ?_
  refine va_sld hx hb hX hbl hbA hS (vp_in_nI (n := 1) (N := 6) (by decide) (by decide)) dL_law_752 ?_
  refine ow_topi (y := xs 1) (congrArg xs (by decide)) ?_
  refine lv_aload_n hx hb dL_law_753 rfl (lv_at hl 0 rfl) ?_
  refine lv_iload hx hb dL_law_754 (lv_at hl 4 rfl) ?_
  refine lv_iconst (v := 2) hx hb dL_law_756 (by decide) ?_
  refine lv_iadd hx hb dL_law_757 ?_
  refine ow_topi (y := 2) (by decide) ?_
  refine va_sld hx hb hX hbl hbA hS (vp_in_nI (n := 2) (N := 6) (by decide) (by decide)) dL_law_758 ?_
  refine ow_topi (y := xs 2) (congrArg xs (by decide)) ?_
  have hPc := hP.sub (ws' := [(y, .inr (16, v.1)), ((v.2 1), .inl (cI, 1280, .inl (fun _ => 0)))]) [3, 4] rfl
  have hDc := hD.sub (ws' := [(y, .inr (16, v.1)), ((v.2 1), .inl (cI, 1280, .inl (fun _ => 0)))]) [3, 4] (by decide) rfl
  have hFc := va_free (wc := [(y, .inr (16, v.1)), ((v.2 1), .inl (cI, 1280, .inl (fun _ => 0)))]) hD hS hA [3, 4] rfl
  refine va_calli (va_runV (As := [.int (xs 1), .int (xs 2)]) (rest := [.int 0]) ⟨hx, hb, hml, hown, hts⟩ (kf_X13_alike l dC dI cI cB cJ cZ y (v.2 1) H.size v.1 hv.1 (hv.2.at 20 rfl) (xs 1) (xs 2)) (cwV 2 hts gw_X13_alike rfl rfl rfl (by decide +kernel) ⟨(Nat.le_of_ble_eq_true rfl), (Nat.le_of_ble_eq_true rfl)⟩) ⟨fun a U g mk q => by obtain ⟨q0, q1, qP, qK, qD⟩ := q; exact ⟨q0, q1, qP, va_K.moved (u := U) (U := U.calling g mk a) (Vm.Alike.refl U.vm) qK, qD⟩, va_recv hK hPc (ci := 16) (q0 := 0) rfl rfl, fun U hU hW => ⟨rfl, by rw [hU], by rw [hU]; exact hPc, va_K.moved hW.alike hK, hDc.weaken (fun _ _ _ _ => trivial)⟩⟩ rfl rfl hl.1 rfl (lv_room (Nat.le_of_ble_eq_true rfl)) dL_law_759 ⟨(Nat.le_of_ble_eq_true rfl), (Nat.le_of_ble_eq_true rfl)⟩) hS (fun q _ h => hFc q h) hFc (fun r9 g9 t H1 locs ht hvm hw hB hz1 hk1 hS => ?_)
  obtain ⟨hP1, hD1⟩ := hB
  rw [ht] at hP1
  obtain ⟨hP, hD⟩ := va_join (wr := [(x, .inr (14, [.ref (u 0), .ref (u 1), .ref (u 2), .ref (u 3), .ref (u 4), .ref (u 5), .ref (u 6), .ref (u 7), .ref (u 8), .ref (u 9), .ref (u 10), .ref (u 11), .ref (u 12), .ref (u 13), .ref (u 14), .ref (u 15), .ref (u 16), .ref (u 17), .ref (u 18)])), ((u 0), .inr (6, [.ref (u 19), .ref (u 20), .ref (u 21), .ref (u 22), .int 0])), ((u 20), .inl (cB, 40, .inl (fun _ => 0))), (qo, .inl (cJ, 1, .inr (.inl (fun _ => 0))))]) (w1 := [(y, .inr (16, g9))]) hP hD [3, 4] [0, 1, 2, 5] rfl rfl (by decide) (by decide) hk1 hFc hP1 hD1
  generalize H1 = H at hP hS ⊢
  have hP : va_P (dC, dI) vwCl [(x, .inr (14, [.ref (u 0), .ref (u 1), .ref (u 2), .ref (u 3), .ref (u 4), .ref (u 5), .ref (u 6), .ref (u 7), .ref (u 8), .ref (u 9), .ref (u 10), .ref (u 11), .ref (u 12), .ref (u 13), .ref (u 14), .ref (u 15), .ref (u 16), .ref (u 17), .ref (u 18)])), ((u 0), .inr (6, [.ref (u 19), .ref (u 20), .ref (u 21), .ref (u 22), .int 0])), ((u 20), .inl (cB, 40, .inl (fun _ => 0))), (qo, .inl (cJ, 1, .inr (.inl (fun _ => 0)))), (y, .inr (16, g9))] H := hP
  have hD : va_D (fun q : Nat => s.heap.size ≤ q) [(x, .inr (14, [.ref (u 0), .ref (u 1), .ref (u 2), .ref (u 3), .ref (u 4), .ref (u 5), .ref (u 6), .ref (u 7), .ref (u 8), .ref (u 9), .ref (u 10), .ref (u 11), .ref (u 12), .ref (u 13), .ref (u 14), .ref (u 15), .ref (u 16), .ref (u 17), .ref (u 18)])), ((u 0), .inr (6, [.ref (u 19), .ref (u 20), .ref (u 21), .ref (u 22), .int 0])), ((u 20), .inl (cB, 40, .inl (fun _ => 0))), (qo, .inl (cJ, 1, .inr (.inl (fun _ => 0)))), (y, .inr (16, g9))] := hD
  obtain ⟨hr9, hg0⟩ := hw
  subst hr9
  refine lv_icmp_eq (tgt := 2616) hx hb dL_law_762 (by decide) (fun _ => ?_) (fun c9 => absurd (rfl) c9)
  exact lc_fin C0 hS (lv_sub hl [0, 4] rfl) (Nat.le_of_ble_eq_true rfl) (Nat.le_of_ble_eq_true rfl)
theorem dL_law_767 : decode cL_law 767 = .ok (.aload_n 1, 1) := by decide +kernel
theorem dL_law_768 : decode cL_law 768 = .ok (.aload_n 0, 1) := by decide +kernel
theorem dL_law_769 : decode cL_law 769 = .ok (.iload 4, 2) := by decide +kernel
theorem dL_law_771 : decode cL_law 771 = .ok (.iconst 1, 1) := by decide +kernel
theorem dL_law_772 : decode cL_law 772 = .ok (.iadd, 1) := by decide +kernel
theorem dL_law_773 : decode cL_law 773 = .ok (.iaload, 1) := by decide +kernel
theorem dL_law_774 : decode cL_law 774 = .ok (.aload_n 3, 1) := by decide +kernel
theorem dL_law_775 : decode cL_law 775 = .ok (.invokestatic 177, 3) := by decide +kernel
theorem dL_law_778 : decode cL_law 778 = .ok (.istore 5, 2) := by decide +kernel
theorem dL_law_780 : decode cL_law 780 = .ok (.aload_n 2, 1) := by decide +kernel
theorem dL_law_781 : decode cL_law 781 = .ok (.aload_n 0, 1) := by decide +kernel
theorem dL_law_782 : decode cL_law 782 = .ok (.iload 4, 2) := by decide +kernel
theorem dL_law_784 : decode cL_law 784 = .ok (.iconst 1, 1) := by decide +kernel
theorem dL_law_785 : decode cL_law 785 = .ok (.iadd, 1) := by decide +kernel
theorem dL_law_786 : decode cL_law 786 = .ok (.iaload, 1) := by decide +kernel
theorem dL_law_787 : decode cL_law 787 = .ok (.invokevirtual 179, 3) := by decide +kernel
theorem dL_law_790 : decode cL_law 790 = .ok (.istore 6, 2) := by decide +kernel
theorem dL_law_792 : decode cL_law 792 = .ok (.aload_n 2, 1) := by decide +kernel
theorem dL_law_793 : decode cL_law 793 = .ok (.invokevirtual 137, 3) := by decide +kernel
theorem dL_law_796 : decode cL_law 796 = .ok (.iload 5, 2) := by decide +kernel
theorem dL_law_798 : decode cL_law 798 = .ok (.if_icmp .eq 5, 3) := by decide +kernel
theorem dL_law_801 : decode cL_law 801 = .ok (.iconst 0, 1) := by decide +kernel
theorem dL_law_802 : decode cL_law 802 = .ok (.ireturn, 1) := by decide +kernel
theorem dL_law_803 : decode cL_law 803 = .ok (.iload 5, 2) := by decide +kernel
theorem dL_law_805 : decode cL_law 805 = .ok (.ifCond .ne 15, 3) := by decide +kernel
theorem dL_law_808 : decode cL_law 808 = .ok (.aload_n 3, 1) := by decide +kernel
theorem dL_law_809 : decode cL_law 809 = .ok (.iconst 0, 1) := by decide +kernel
theorem dL_law_810 : decode cL_law 810 = .ok (.laload, 1) := by decide +kernel
theorem dL_law_811 : decode cL_law 811 = .ok (.iload 6, 2) := by decide +kernel
theorem dL_law_813 : decode cL_law 813 = .ok (.i2l, 1) := by decide +kernel
theorem dL_law_814 : decode cL_law 814 = .ok (.lcmp, 1) := by decide +kernel
theorem dL_law_815 : decode cL_law 815 = .ok (.ifCond .eq 5, 3) := by decide +kernel
theorem dL_law_818 : decode cL_law 818 = .ok (.iconst 0, 1) := by decide +kernel
theorem dL_law_819 : decode cL_law 819 = .ok (.ireturn, 1) := by decide +kernel
theorem dL_law_820 : decode cL_law 820 = .ok (.goto 1796, 3) := by decide +kernel
set_option maxHeartbeats 4000000 in
set_option maxRecDepth 100000 in
theorem lc_mirror {p : Program} {l : Launch} {e : Env} {s : State} {m : MethodId} {below : List Frame} {meth : Method} {c : Code} {b : Nat} {xs : Nat → Int32} {dC : Nat → ClassId} {dI : Nat → Nat → Nat} {cI cB cJ cZ : ClassId} {sa : Nat → Nat} (C0 : lw_At p s m meth c b 6 xs) (hG : ow_LG l s dC dI cI cB cJ cZ sa) {x y qo : Nat} {u : Nat → Nat} {v : List Value × (Nat → Nat)} (hv : kn_X13_init v) {H : Heap} {locs : List Loc} {ls : Array Slot} (hP : va_P (dC, dI) vwCl (wd_X11_init cI cB cJ x u ++ (wd_X13_init cI cB y v ++ [(qo, .inl (cJ, 1, .inr (.inl (fun _ => 0))))])) H) (hD : va_D (fun q : Nat => s.heap.size ≤ q) (wd_X11_init cI cB cJ x u ++ (wd_X13_init cI cB y v ++ [(qo, .inl (cJ, 1, .inr (.inl (fun _ => 0))))]))) (hS : va_S (fun q : Nat => s.heap.size ≤ q) s.heap H locs) (hl : lv_has ls 8 [(0, .ref b), (1, .ref x), (2, .ref y), (3, .ref qo), (4, .int 0)]) : W p l e room_1 s m #[Value.ref b] below meth c H locs 694 1334208 (lw_Z below #[Value.ref b] s) (F0 m 767 ls []) := by
  obtain ⟨hx, hb, hr, hml, hown, hts, hX, hbl, hlocks, hgv⟩ := id C0
  have hown : s.vm.findClass RL = some m.cls := hown
  have hA : ∀ q : Nat, s.heap.size ≤ q → (fun q : Nat => s.heap.size ≤ q) q := fun _ h => h
  have hbA : ¬ (fun q : Nat => s.heap.size ≤ q) b := Nat.not_le.mpr hbl
  have hK := hG.2.1
  have hP := hP.sub (ws' := [(x, .inr (14, [.ref (u 0), .ref (u 1), .ref (u 2), .ref (u 3), .ref (u 4), .ref (u 5), .ref (u 6), .ref (u 7), .ref (u 8), .ref (u 9), .ref (u 10), .ref (u 11), .ref (u 12), .ref (u 13), .ref (u 14), .ref (u 15), .ref (u 16), .ref (u 17), .ref (u 18)])), ((u 0), .inr (6, [.ref (u 19), .ref (u 20), .ref (u 21), .ref (u 22), .int 0])), ((u 20), .inl (cB, 40, .inl (fun _ => 0))), (y, .inr (16, v.1)), ((v.2 1), .inl (cI, 1280, .inl (fun _ => 0))), (qo, .inl (cJ, 1, .inr (.inl (fun _ => 0))))]) [0, 1, 3, 60, 62, 71] rfl
  have hD := hD.sub (ws' := [(x, .inr (14, [.ref (u 0), .ref (u 1), .ref (u 2), .ref (u 3), .ref (u 4), .ref (u 5), .ref (u 6), .ref (u 7), .ref (u 8), .ref (u 9), .ref (u 10), .ref (u 11), .ref (u 12), .ref (u 13), .ref (u 14), .ref (u 15), .ref (u 16), .ref (u 17), .ref (u 18)])), ((u 0), .inr (6, [.ref (u 19), .ref (u 20), .ref (u 21), .ref (u 22), .int 0])), ((u 20), .inl (cB, 40, .inl (fun _ => 0))), (y, .inr (16, v.1)), ((v.2 1), .inl (cI, 1280, .inl (fun _ => 0))), (qo, .inl (cJ, 1, .inr (.inl (fun _ => 0))))]) [0, 1, 3, 60, 62, 71] (by decide) rfl
  refine lv_aload_n hx hb dL_law_767 rfl (lv_at hl 1 rfl) ?_
  refine lv_aload_n hx hb dL_law_768 rfl (lv_at hl 0 rfl) ?_
  refine lv_iload hx hb dL_law_769 (lv_at hl 4 rfl) ?_
  refine lv_iconst (v := 1) hx hb dL_law_771 (by decide) ?_
  refine lv_iadd hx hb dL_law_772 ?_
  refine ow_topi (y := 1) (by decide) ?_
  refine va_sld hx hb hX hbl hbA hS (vp_in_nI (n := 1) (N := 6) (by decide) (by decide)) dL_law_773 ?_
  refine ow_topi (y := xs 1) (congrArg xs (by decide)) ?_
  refine lv_aload_n hx hb dL_law_774 rfl (lv_at hl 3 rfl) ?_
  have hPc := hP.sub (ws' := [(x, .inr (14, [.ref (u 0), .ref (u 1), .ref (u 2), .ref (u 3), .ref (u 4), .ref (u 5), .ref (u 6), .ref (u 7), .ref (u 8), .ref (u 9), .ref (u 10), .ref (u 11), .ref (u 12), .ref (u 13), .ref (u 14), .ref (u 15), .ref (u 16), .ref (u 17), .ref (u 18)])), ((u 0), .inr (6, [.ref (u 19), .ref (u 20), .ref (u 21), .ref (u 22), .int 0])), ((u 20), .inl (cB, 40, .inl (fun _ => 0)))]) [0, 1, 2] rfl
  refine vx_calli (vx_runSX (As := [.ref x, .int (xs 1), .ref qo]) (rest := []) ⟨hx, hb, hml, hown, hts⟩ (kf_L_mirror l dC dI cI cB cJ cZ hG.1 x (sa 0) qo u (xs 1)) (vx_cwSW 3 hts gw_L_mirror rfl rfl rfl (by decide +kernel) ⟨(Nat.le_of_ble_eq_true rfl), (Nat.le_of_ble_eq_true rfl)⟩) ⟨fun a U g mk q => by obtain ⟨q0, qP, qK, qT⟩ := q; exact ⟨q0, qP, va_K.moved (u := U) (U := U.calling g mk a) (Vm.Alike.refl U.vm) qK, qT.same rfl rfl⟩, fun U hU hW => ⟨rfl, by rw [hU]; exact hPc, va_K.moved hW.alike hK, (hG.2.2.2.1).to hS hW hU (fun q h => h.elim)⟩⟩ rfl rfl hl.1 rfl (lv_room (Nat.le_of_ble_eq_true rfl)) dL_law_775 ⟨(Nat.le_of_ble_eq_true rfl), (Nat.le_of_ble_eq_true rfl)⟩) hS (fun q _ h => h.elim) (fun q h => h.elim) (fun q _ h => h.elim) (fun E ce q9 u9 t H1 locs1 ht hvm hp hB hz hk hS hce hcv hcl => hp.elim) (fun r7 g7 t H1 locs ht hvm hw hB hz1 hk1 hS => ?_)
  obtain rfl : r7 = 1 := hw
  have hP := hP.kept (fun k9 x9 h9 => hk1 x9.1 ((hP k9 x9 h9).lt) id)
  generalize H1 = H at hP hS ⊢
  refine W.widen (k := 695) (n := 1334214) (Nat.le_of_ble_eq_true rfl) (Nat.le_of_ble_eq_true rfl) ?_
  refine lv_istore (lv' := [(5, .int 1), (0, .ref b), (1, .ref x), (2, .ref y), (3, .ref qo), (4, .int 0)]) hx hb dL_law_778 hl (by decide) rfl (fun ls hl => ?_)
  refine lv_aload_n hx hb dL_law_780 rfl (lv_at hl 3 rfl) ?_
  refine lv_aload_n hx hb dL_law_781 rfl (lv_at hl 1 rfl) ?_
  refine lv_iload hx hb dL_law_782 (lv_at hl 5 rfl) ?_
  refine lv_iconst (v := 1) hx hb dL_law_784 (by decide) ?_
  refine lv_iadd hx hb dL_law_785 ?_
  refine ow_topi (y := 1) (by decide) ?_
  refine va_sld hx hb hX hbl hbA hS (vp_in_nI (n := 1) (N := 6) (by decide) (by decide)) dL_law_786 ?_
  refine ow_topi (y := xs 1) (congrArg xs (by decide)) ?_
  have hPc := hP.sub (ws' := [(y, .inr (16, v.1)), ((v.2 1), .inl (cI, 1280, .inl (fun _ => 0)))]) [3, 4] rfl
  have hDc := hD.sub (ws' := [(y, .inr (16, v.1)), ((v.2 1), .inl (cI, 1280, .inl (fun _ => 0)))]) [3, 4] (by decide) rfl
  have hFc := va_free (wc := [(y, .inr (16, v.1)), ((v.2 1), .inl (cI, 1280, .inl (fun _ => 0)))]) hD hS hA [3, 4] rfl
  refine va_calli (va_runV (As := [.int (xs 1)]) (rest := []) ⟨hx, hb, hml, hown, hts⟩ (kf_X13_mirror l dC dI cI cB cJ cZ y (v.2 1) H.size v.1 hv.1 (hv.2.at 20 rfl) (xs 1)) (cwV 1 hts gw_X13_mirror rfl rfl rfl (by decide +kernel) ⟨(Nat.le_of_ble_eq_true rfl), (Nat.le_of_ble_eq_true rfl)⟩) ⟨fun a U g mk q => by obtain ⟨q0, q1, qP, qK, qD⟩ := q; exact ⟨q0, q1, qP, va_K.moved (u := U) (U := U.calling g mk a) (Vm.Alike.refl U.vm) qK, qD⟩, va_recv hK hPc (ci := 16) (q0 := 0) rfl rfl, fun U hU hW => ⟨rfl, by rw [hU], by rw [hU]; exact hPc, va_K.moved hW.alike hK, hDc.weaken (fun _ _ _ _ => trivial)⟩⟩ rfl rfl hl.1 rfl (lv_room (Nat.le_of_ble_eq_true rfl)) dL_law_787 ⟨(Nat.le_of_ble_eq_true rfl), (Nat.le_of_ble_eq_true rfl)⟩) hS (fun q _ h => hFc q h) hFc (fun r9 g9 t H1 locs ht hvm hw hB hz1 hk1 hS => ?_)
  obtain ⟨hP1, hD1⟩ := hB
  rw [ht] at hP1
  obtain ⟨hP, hD⟩ := va_join (wr := [(x, .inr (14, [.ref (u 0), .ref (u 1), .ref (u 2), .ref (u 3), .ref (u 4), .ref (u 5), .ref (u 6), .ref (u 7), .ref (u 8), .ref (u 9), .ref (u 10), .ref (u 11), .ref (u 12), .ref (u 13), .ref (u 14), .ref (u 15), .ref (u 16), .ref (u 17), .ref (u 18)])), ((u 0), .inr (6, [.ref (u 19), .ref (u 20), .ref (u 21), .ref (u 22), .int 0])), ((u 20), .inl (cB, 40, .inl (fun _ => 0))), (qo, .inl (cJ, 1, .inr (.inl (fun _ => 0))))]) (w1 := [(y, .inr (16, g9))]) hP hD [3, 4] [0, 1, 2, 5] rfl rfl (by decide) (by decide) hk1 hFc hP1 hD1
  generalize H1 = H at hP hS ⊢
  have hP : va_P (dC, dI) vwCl [(x, .inr (14, [.ref (u 0), .ref (u 1), .ref (u 2), .ref (u 3), .ref (u 4), .ref (u 5), .ref (u 6), .ref (u 7), .ref (u 8), .ref (u 9), .ref (u 10), .ref (u 11), .ref (u 12), .ref (u 13), .ref (u 14), .ref (u 15), .ref (u 16), .ref (u 17), .ref (u 18)])), ((u 0), .inr (6, [.ref (u 19), .ref (u 20), .ref (u 21), .ref (u 22), .int 0])), ((u 20), .inl (cB, 40, .inl (fun _ => 0))), (qo, .inl (cJ, 1, .inr (.inl (fun _ => 0)))), (y, .inr (16, g9))] H := hP
  have hD : va_D (fun q : Nat => s.heap.size ≤ q) [(x, .inr (14, [.ref (u 0), .ref (u 1), .ref (u 2), .ref (u 3), .ref (u 4), .ref (u 5), .ref (u 6), .ref (u 7), .ref (u 8), .ref (u 9), .ref (u 10), .ref (u 11), .ref (u 12), .ref (u 13), .ref (u 14), .ref (u 15), .ref (u 16), .ref (u 17), .ref (u 18)])), ((u 0), .inr (6, [.ref (u 19), .ref (u 20), .ref (u 21), .ref (u 22), .int 0])), ((u 20), .inl (cB, 40, .inl (fun _ => 0))), (qo, .inl (cJ, 1, .inr (.inl (fun _ => 0)))), (y, .inr (16, g9))] := hD
  obtain ⟨hr9, hg0⟩ := hw
  subst hr9
  refine lv_istore (lv' := [(6, .int 0), (5, .int 1), (0, .ref b), (1, .ref x), (2, .ref y), (3, .ref qo), (4, .int 0)]) hx hb dL_law_790 hl (by decide) rfl (fun ls hl => ?_)
  refine lv_aload_n hx hb dL_law_792 rfl (lv_at hl 4 rfl) ?_
  have hPc := hP.sub (ws' := [(y, .inr (16, g9))]) [4] rfl
  refine va_calli (va_runV (As := []) (rest := []) ⟨hx, hb, hml, hown, hts⟩ (kf_X13_thrownN l dC dI cI cB cJ cZ y g9 1 hg0) (cwV 0 hts gw_X13_thrown rfl rfl rfl (by decide +kernel) ⟨(Nat.le_of_ble_eq_true rfl), (Nat.le_of_ble_eq_true rfl)⟩) ⟨fun a U g mk q => by obtain ⟨q0, qP, qK⟩ := q; exact ⟨q0, qP, va_K.moved (u := U) (U := U.calling g mk a) (Vm.Alike.refl U.vm) qK⟩, va_recv hK hPc (ci := 16) (q0 := 0) rfl rfl, fun U hU hW => ⟨rfl, by rw [hU]; exact hPc, va_K.moved hW.alike hK⟩⟩ rfl rfl hl.1 rfl (lv_room (Nat.le_of_ble_eq_true rfl)) dL_law_793 ⟨(Nat.le_of_ble_eq_true rfl), (Nat.le_of_ble_eq_true rfl)⟩) hS (fun q _ h => h.elim) (fun q h => h.elim) (fun r8 un t H1 locs ht hvm hw8 hB hz1 hk1 hS => ?_)
  obtain rfl : r8 = 1 := hw8
  have hP := hP.kept (fun k9 x9 h9 => hk1 x9.1 ((hP k9 x9 h9).lt) id)
  generalize H1 = H at hP hS ⊢
  refine lv_iload hx hb dL_law_796 (lv_at hl 1 rfl) ?_
  refine lv_icmp_eq (tgt := 803) hx hb dL_law_798 (by decide) (fun _ => ?_) (fun c9 => absurd (rfl) c9)
  refine lv_iload hx hb dL_law_803 (lv_at hl 1 rfl) ?_
  refine lv_if_ne (tgt := 820) hx hb dL_law_805 (by decide) (fun _ => ?_) (fun c9 => absurd c9 (by decide))
  refine lv_goto (tgt := 2616) hx hb dL_law_820 (by decide) ?_
  exact lc_fin C0 hS (lv_sub hl [2, 6] rfl) (Nat.le_of_ble_eq_true rfl) (Nat.le_of_ble_eq_true rfl)
theorem dL_law_823 : decode cL_law 823 = .ok (.aload_n 1, 1) := by decide +kernel
theorem dL_law_824 : decode cL_law 824 = .ok (.aload_n 0, 1) := by decide +kernel
theorem dL_law_825 : decode cL_law 825 = .ok (.iload 4, 2) := by decide +kernel
theorem dL_law_827 : decode cL_law 827 = .ok (.iconst 1, 1) := by decide +kernel
theorem dL_law_828 : decode cL_law 828 = .ok (.iadd, 1) := by decide +kernel
theorem dL_law_829 : decode cL_law 829 = .ok (.iaload, 1) := by decide +kernel
theorem dL_law_830 : decode cL_law 830 = .ok (.aload_n 0, 1) := by decide +kernel
theorem dL_law_831 : decode cL_law 831 = .ok (.iload 4, 2) := by decide +kernel
theorem dL_law_833 : decode cL_law 833 = .ok (.iconst 2, 1) := by decide +kernel
theorem dL_law_834 : decode cL_law 834 = .ok (.iadd, 1) := by decide +kernel
theorem dL_law_835 : decode cL_law 835 = .ok (.iaload, 1) := by decide +kernel
theorem dL_law_836 : decode cL_law 836 = .ok (.aload_n 3, 1) := by decide +kernel
theorem dL_law_837 : decode cL_law 837 = .ok (.invokestatic 180, 3) := by decide +kernel
theorem dL_law_840 : decode cL_law 840 = .ok (.istore 5, 2) := by decide +kernel
theorem dL_law_842 : decode cL_law 842 = .ok (.aload_n 2, 1) := by decide +kernel
theorem dL_law_843 : decode cL_law 843 = .ok (.aload_n 0, 1) := by decide +kernel
theorem dL_law_844 : decode cL_law 844 = .ok (.iload 4, 2) := by decide +kernel
theorem dL_law_846 : decode cL_law 846 = .ok (.iconst 1, 1) := by decide +kernel
theorem dL_law_847 : decode cL_law 847 = .ok (.iadd, 1) := by decide +kernel
theorem dL_law_848 : decode cL_law 848 = .ok (.iaload, 1) := by decide +kernel
theorem dL_law_849 : decode cL_law 849 = .ok (.aload_n 0, 1) := by decide +kernel
theorem dL_law_850 : decode cL_law 850 = .ok (.iload 4, 2) := by decide +kernel
theorem dL_law_852 : decode cL_law 852 = .ok (.iconst 2, 1) := by decide +kernel
theorem dL_law_853 : decode cL_law 853 = .ok (.iadd, 1) := by decide +kernel
theorem dL_law_854 : decode cL_law 854 = .ok (.iaload, 1) := by decide +kernel
theorem dL_law_855 : decode cL_law 855 = .ok (.invokevirtual 182, 3) := by decide +kernel
theorem dL_law_858 : decode cL_law 858 = .ok (.istore 6, 2) := by decide +kernel
theorem dL_law_860 : decode cL_law 860 = .ok (.aload_n 2, 1) := by decide +kernel
theorem dL_law_861 : decode cL_law 861 = .ok (.invokevirtual 137, 3) := by decide +kernel
theorem dL_law_864 : decode cL_law 864 = .ok (.iload 5, 2) := by decide +kernel
theorem dL_law_866 : decode cL_law 866 = .ok (.if_icmp .eq 5, 3) := by decide +kernel
theorem dL_law_869 : decode cL_law 869 = .ok (.iconst 0, 1) := by decide +kernel
theorem dL_law_870 : decode cL_law 870 = .ok (.ireturn, 1) := by decide +kernel
theorem dL_law_871 : decode cL_law 871 = .ok (.iload 5, 2) := by decide +kernel
theorem dL_law_873 : decode cL_law 873 = .ok (.ifCond .ne 15, 3) := by decide +kernel
theorem dL_law_876 : decode cL_law 876 = .ok (.aload_n 3, 1) := by decide +kernel
theorem dL_law_877 : decode cL_law 877 = .ok (.iconst 0, 1) := by decide +kernel
theorem dL_law_878 : decode cL_law 878 = .ok (.laload, 1) := by decide +kernel
theorem dL_law_879 : decode cL_law 879 = .ok (.iload 6, 2) := by decide +kernel
theorem dL_law_881 : decode cL_law 881 = .ok (.i2l, 1) := by decide +kernel
theorem dL_law_882 : decode cL_law 882 = .ok (.lcmp, 1) := by decide +kernel
theorem dL_law_883 : decode cL_law 883 = .ok (.ifCond .eq 5, 3) := by decide +kernel
theorem dL_law_886 : decode cL_law 886 = .ok (.iconst 0, 1) := by decide +kernel
theorem dL_law_887 : decode cL_law 887 = .ok (.ireturn, 1) := by decide +kernel
theorem dL_law_888 : decode cL_law 888 = .ok (.goto 1728, 3) := by decide +kernel
set_option maxHeartbeats 4000000 in
set_option maxRecDepth 100000 in
theorem lc_reverse {p : Program} {l : Launch} {e : Env} {s : State} {m : MethodId} {below : List Frame} {meth : Method} {c : Code} {b : Nat} {xs : Nat → Int32} {dC : Nat → ClassId} {dI : Nat → Nat → Nat} {cI cB cJ cZ : ClassId} {sa : Nat → Nat} (C0 : lw_At p s m meth c b 6 xs) (hG : ow_LG l s dC dI cI cB cJ cZ sa) {x y qo : Nat} {u : Nat → Nat} {v : List Value × (Nat → Nat)} (hv : kn_X13_init v) {H : Heap} {locs : List Loc} {ls : Array Slot} (hP : va_P (dC, dI) vwCl (wd_X11_init cI cB cJ x u ++ (wd_X13_init cI cB y v ++ [(qo, .inl (cJ, 1, .inr (.inl (fun _ => 0))))])) H) (hD : va_D (fun q : Nat => s.heap.size ≤ q) (wd_X11_init cI cB cJ x u ++ (wd_X13_init cI cB y v ++ [(qo, .inl (cJ, 1, .inr (.inl (fun _ => 0))))]))) (hS : va_S (fun q : Nat => s.heap.size ≤ q) s.heap H locs) (hl : lv_has ls 8 [(0, .ref b), (1, .ref x), (2, .ref y), (3, .ref qo), (4, .int 0)]) : W p l e room_1 s m #[Value.ref b] below meth c H locs 694 1334208 (lw_Z below #[Value.ref b] s) (F0 m 823 ls []) := by
  obtain ⟨hx, hb, hr, hml, hown, hts, hX, hbl, hlocks, hgv⟩ := id C0
  have hown : s.vm.findClass RL = some m.cls := hown
  have hA : ∀ q : Nat, s.heap.size ≤ q → (fun q : Nat => s.heap.size ≤ q) q := fun _ h => h
  have hbA : ¬ (fun q : Nat => s.heap.size ≤ q) b := Nat.not_le.mpr hbl
  have hK := hG.2.1
  have hP := hP.sub (ws' := [(x, .inr (14, [.ref (u 0), .ref (u 1), .ref (u 2), .ref (u 3), .ref (u 4), .ref (u 5), .ref (u 6), .ref (u 7), .ref (u 8), .ref (u 9), .ref (u 10), .ref (u 11), .ref (u 12), .ref (u 13), .ref (u 14), .ref (u 15), .ref (u 16), .ref (u 17), .ref (u 18)])), ((u 0), .inr (6, [.ref (u 19), .ref (u 20), .ref (u 21), .ref (u 22), .int 0])), ((u 20), .inl (cB, 40, .inl (fun _ => 0))), (y, .inr (16, v.1)), ((v.2 1), .inl (cI, 1280, .inl (fun _ => 0))), (qo, .inl (cJ, 1, .inr (.inl (fun _ => 0))))]) [0, 1, 3, 60, 62, 71] rfl
  have hD := hD.sub (ws' := [(x, .inr (14, [.ref (u 0), .ref (u 1), .ref (u 2), .ref (u 3), .ref (u 4), .ref (u 5), .ref (u 6), .ref (u 7), .ref (u 8), .ref (u 9), .ref (u 10), .ref (u 11), .ref (u 12), .ref (u 13), .ref (u 14), .ref (u 15), .ref (u 16), .ref (u 17), .ref (u 18)])), ((u 0), .inr (6, [.ref (u 19), .ref (u 20), .ref (u 21), .ref (u 22), .int 0])), ((u 20), .inl (cB, 40, .inl (fun _ => 0))), (y, .inr (16, v.1)), ((v.2 1), .inl (cI, 1280, .inl (fun _ => 0))), (qo, .inl (cJ, 1, .inr (.inl (fun _ => 0))))]) [0, 1, 3, 60, 62, 71] (by decide) rfl
  refine lv_aload_n hx hb dL_law_823 rfl (lv_at hl 1 rfl) ?_
  refine lv_aload_n hx hb dL_law_824 rfl (lv_at hl 0 rfl) ?_
  refine lv_iload hx hb dL_law_825 (lv_at hl 4 rfl) ?_
  refine lv_iconst (v := 1) hx hb dL_law_827 (by decide) ?_
  refine lv_iadd hx hb dL_law_828 ?_
  refine ow_topi (y := 1) (by decide) ?_
  refine va_sld hx hb hX hbl hbA hS (vp_in_nI (n := 1) (N := 6) (by decide) (by decide)) dL_law_829 ?_
  refine ow_topi (y := xs 1) (congrArg xs (by decide)) ?_
  refine lv_aload_n hx hb dL_law_830 rfl (lv_at hl 0 rfl) ?_
  refine lv_iload hx hb dL_law_831 (lv_at hl 4 rfl) ?_
  refine lv_iconst (v := 2) hx hb dL_law_833 (by decide) ?_
  refine lv_iadd hx hb dL_law_834 ?_
  refine ow_topi (y := 2) (by decide) ?_
  refine va_sld hx hb hX hbl hbA hS (vp_in_nI (n := 2) (N := 6) (by decide) (by decide)) dL_law_835 ?_
  refine ow_topi (y := xs 2) (congrArg xs (by decide)) ?_
  refine lv_aload_n hx hb dL_law_836 rfl (lv_at hl 3 rfl) ?_
  have hPc := hP.sub (ws' := [(x, .inr (14, [.ref (u 0), .ref (u 1), .ref (u 2), .ref (u 3), .ref (u 4), .ref (u 5), .ref (u 6), .ref (u 7), .ref (u 8), .ref (u 9), .ref (u 10), .ref (u 11), .ref (u 12), .ref (u 13), .ref (u 14), .ref (u 15), .ref (u 16), .ref (u 17), .ref (u 18)])), ((u 0), .inr (6, [.ref (u 19), .ref (u 20), .ref (u 21), .ref (u 22), .int 0])), ((u 20), .inl (cB, 40, .inl (fun _ => 0)))]) [0, 1, 2] rfl
  refine vx_calli (vx_runSX (As := [.ref x, .int (xs 1), .int (xs 2), .ref qo]) (rest := []) ⟨hx, hb, hml, hown, hts⟩ (kf_L_reverse l dC dI cI cB cJ cZ hG.1 x (sa 0) qo u (xs 1) (xs 2)) (vx_cwSW 4 hts gw_L_reverse rfl rfl rfl (by decide +kernel) ⟨(Nat.le_of_ble_eq_true rfl), (Nat.le_of_ble_eq_true rfl)⟩) ⟨fun a U g mk q => by obtain ⟨q0, qP, qK, qT⟩ := q; exact ⟨q0, qP, va_K.moved (u := U) (U := U.calling g mk a) (Vm.Alike.refl U.vm) qK, qT.same rfl rfl⟩, fun U hU hW => ⟨rfl, by rw [hU]; exact hPc, va_K.moved hW.alike hK, (hG.2.2.2.1).to hS hW hU (fun q h => h.elim)⟩⟩ rfl rfl hl.1 rfl (lv_room (Nat.le_of_ble_eq_true rfl)) dL_law_837 ⟨(Nat.le_of_ble_eq_true rfl), (Nat.le_of_ble_eq_true rfl)⟩) hS (fun q _ h => h.elim) (fun q h => h.elim) (fun q _ h => h.elim) (fun E ce q9 u9 t H1 locs1 ht hvm hp hB hz hk hS hce hcv hcl => hp.elim) (fun r7 g7 t H1 locs ht hvm hw hB hz1 hk1 hS => ?_)
  obtain rfl : r7 = 1 := hw
  have hP := hP.kept (fun k9 x9 h9 => hk1 x9.1 ((hP k9 x9 h9).lt) id)
  generalize H1 = H at hP hS ⊢
  refine W.widen (k := 695) (n := 1334214) (Nat.le_of_ble_eq_true rfl) (Nat.le_of_ble_eq_true rfl) ?_
  refine lv_istore (lv' := [(5, .int 1), (0, .ref b), (1, .ref x), (2, .ref y), (3, .ref qo), (4, .int 0)]) hx hb dL_law_840 hl (by decide) rfl (fun ls hl => ?_)
  refine lv_aload_n hx hb dL_law_842 rfl (lv_at hl 3 rfl) ?_
  refine lv_aload_n hx hb dL_law_843 rfl (lv_at hl 1 rfl) ?_
  refine lv_iload hx hb dL_law_844 (lv_at hl 5 rfl) ?_
  refine lv_iconst (v := 1) hx hb dL_law_846 (by decide) ?_
  refine lv_iadd hx hb dL_law_847 ?_
  refine ow_topi (y := 1) (by decide) ?_
  refine va_sld hx hb hX hbl hbA hS (vp_in_nI (n := 1) (N := 6) (by decide) (by decide)) dL_law_848 ?_
  refine ow_topi (y := xs 1) (congrArg xs (by decide)) ?_
  refine lv_aload_n hx hb dL_law_849 rfl (lv_at hl 1 rfl) ?_
  refine lv_iload hx hb dL_law_850 (lv_at hl 5 rfl) ?_
  refine lv_iconst (v := 2) hx hb dL_law_852 (by decide) ?_
  refine lv_iadd hx hb dL_law_853 ?_
  refine ow_topi (y := 2) (by decide) ?_
  refine va_sld hx hb hX hbl hbA hS (vp_in_nI (n := 2) (N := 6) (by decide) (by decide)) dL_law_854 ?_
  refine ow_topi (y := xs 2) (congrArg xs (by decide)) ?_
  have hPc := hP.sub (ws' := [(y, .inr (16, v.1)), ((v.2 1), .inl (cI, 1280, .inl (fun _ => 0)))]) [3, 4] rfl
  have hDc := hD.sub (ws' := [(y, .inr (16, v.1)), ((v.2 1), .inl (cI, 1280, .inl (fun _ => 0)))]) [3, 4] (by decide) rfl
  have hFc := va_free (wc := [(y, .inr (16, v.1)), ((v.2 1), .inl (cI, 1280, .inl (fun _ => 0)))]) hD hS hA [3, 4] rfl
  refine va_calli (va_runV (As := [.int (xs 1), .int (xs 2)]) (rest := []) ⟨hx, hb, hml, hown, hts⟩ (kf_X13_reverse l dC dI cI cB cJ cZ y (v.2 1) H.size v.1 hv.1 (hv.2.at 20 rfl) (xs 1) (xs 2)) (cwV 2 hts gw_X13_reverse rfl rfl rfl (by decide +kernel) ⟨(Nat.le_of_ble_eq_true rfl), (Nat.le_of_ble_eq_true rfl)⟩) ⟨fun a U g mk q => by obtain ⟨q0, q1, qP, qK, qD⟩ := q; exact ⟨q0, q1, qP, va_K.moved (u := U) (U := U.calling g mk a) (Vm.Alike.refl U.vm) qK, qD⟩, va_recv hK hPc (ci := 16) (q0 := 0) rfl rfl, fun U hU hW => ⟨rfl, by rw [hU], by rw [hU]; exact hPc, va_K.moved hW.alike hK, hDc.weaken (fun _ _ _ _ => trivial)⟩⟩ rfl rfl hl.1 rfl (lv_room (Nat.le_of_ble_eq_true rfl)) dL_law_855 ⟨(Nat.le_of_ble_eq_true rfl), (Nat.le_of_ble_eq_true rfl)⟩) hS (fun q _ h => hFc q h) hFc (fun r9 g9 t H1 locs ht hvm hw hB hz1 hk1 hS => ?_)
  obtain ⟨hP1, hD1⟩ := hB
  rw [ht] at hP1
  obtain ⟨hP, hD⟩ := va_join (wr := [(x, .inr (14, [.ref (u 0), .ref (u 1), .ref (u 2), .ref (u 3), .ref (u 4), .ref (u 5), .ref (u 6), .ref (u 7), .ref (u 8), .ref (u 9), .ref (u 10), .ref (u 11), .ref (u 12), .ref (u 13), .ref (u 14), .ref (u 15), .ref (u 16), .ref (u 17), .ref (u 18)])), ((u 0), .inr (6, [.ref (u 19), .ref (u 20), .ref (u 21), .ref (u 22), .int 0])), ((u 20), .inl (cB, 40, .inl (fun _ => 0))), (qo, .inl (cJ, 1, .inr (.inl (fun _ => 0))))]) (w1 := [(y, .inr (16, g9))]) hP hD [3, 4] [0, 1, 2, 5] rfl rfl (by decide) (by decide) hk1 hFc hP1 hD1
  generalize H1 = H at hP hS ⊢
  have hP : va_P (dC, dI) vwCl [(x, .inr (14, [.ref (u 0), .ref (u 1), .ref (u 2), .ref (u 3), .ref (u 4), .ref (u 5), .ref (u 6), .ref (u 7), .ref (u 8), .ref (u 9), .ref (u 10), .ref (u 11), .ref (u 12), .ref (u 13), .ref (u 14), .ref (u 15), .ref (u 16), .ref (u 17), .ref (u 18)])), ((u 0), .inr (6, [.ref (u 19), .ref (u 20), .ref (u 21), .ref (u 22), .int 0])), ((u 20), .inl (cB, 40, .inl (fun _ => 0))), (qo, .inl (cJ, 1, .inr (.inl (fun _ => 0)))), (y, .inr (16, g9))] H := hP
  have hD : va_D (fun q : Nat => s.heap.size ≤ q) [(x, .inr (14, [.ref (u 0), .ref (u 1), .ref (u 2), .ref (u 3), .ref (u 4), .ref (u 5), .ref (u 6), .ref (u 7), .ref (u 8), .ref (u 9), .ref (u 10), .ref (u 11), .ref (u 12), .ref (u 13), .ref (u 14), .ref (u 15), .ref (u 16), .ref (u 17), .ref (u 18)])), ((u 0), .inr (6, [.ref (u 19), .ref (u 20), .ref (u 21), .ref (u 22), .int 0])), ((u 20), .inl (cB, 40, .inl (fun _ => 0))), (qo, .inl (cJ, 1, .inr (.inl (fun _ => 0)))), (y, .inr (16, g9))] := hD
  obtain ⟨hr9, hg0⟩ := hw
  subst hr9
  refine lv_istore (lv' := [(6, .int 0), (5, .int 1), (0, .ref b), (1, .ref x), (2, .ref y), (3, .ref qo), (4, .int 0)]) hx hb dL_law_858 hl (by decide) rfl (fun ls hl => ?_)
  refine lv_aload_n hx hb dL_law_860 rfl (lv_at hl 4 rfl) ?_
  have hPc := hP.sub (ws' := [(y, .inr (16, g9))]) [4] rfl
  refine va_calli (va_runV (As := []) (rest := []) ⟨hx, hb, hml, hown, hts⟩ (kf_X13_thrownN l dC dI cI cB cJ cZ y g9 1 hg0) (cwV 0 hts gw_X13_thrown rfl rfl rfl (by decide +kernel) ⟨(Nat.le_of_ble_eq_true rfl), (Nat.le_of_ble_eq_true rfl)⟩) ⟨fun a U g mk q => by obtain ⟨q0, qP, qK⟩ := q; exact ⟨q0, qP, va_K.moved (u := U) (U := U.calling g mk a) (Vm.Alike.refl U.vm) qK⟩, va_recv hK hPc (ci := 16) (q0 := 0) rfl rfl, fun U hU hW => ⟨rfl, by rw [hU]; exact hPc, va_K.moved hW.alike hK⟩⟩ rfl rfl hl.1 rfl (lv_room (Nat.le_of_ble_eq_true rfl)) dL_law_861 ⟨(Nat.le_of_ble_eq_true rfl), (Nat.le_of_ble_eq_true rfl)⟩) hS (fun q _ h => h.elim) (fun q h => h.elim) (fun r8 un t H1 locs ht hvm hw8 hB hz1 hk1 hS => ?_)
  obtain rfl : r8 = 1 := hw8
  have hP := hP.kept (fun k9 x9 h9 => hk1 x9.1 ((hP k9 x9 h9).lt) id)
  generalize H1 = H at hP hS ⊢
  refine lv_iload hx hb dL_law_864 (lv_at hl 1 rfl) ?_
  refine lv_icmp_eq (tgt := 871) hx hb dL_law_866 (by decide) (fun _ => ?_) (fun c9 => absurd (rfl) c9)
  refine lv_iload hx hb dL_law_871 (lv_at hl 1 rfl) ?_
  refine lv_if_ne (tgt := 888) hx hb dL_law_873 (by decide) (fun _ => ?_) (fun c9 => absurd c9 (by decide))
  refine lv_goto (tgt := 2616) hx hb dL_law_888 (by decide) ?_
  exact lc_fin C0 hS (lv_sub hl [2, 6] rfl) (Nat.le_of_ble_eq_true rfl) (Nat.le_of_ble_eq_true rfl)
theorem dL_law_891 : decode cL_law 891 = .ok (.aload_n 1, 1) := by decide +kernel
theorem dL_law_892 : decode cL_law 892 = .ok (.aload_n 0, 1) := by decide +kernel
theorem dL_law_893 : decode cL_law 893 = .ok (.iload 4, 2) := by decide +kernel
theorem dL_law_895 : decode cL_law 895 = .ok (.iconst 1, 1) := by decide +kernel
theorem dL_law_896 : decode cL_law 896 = .ok (.iadd, 1) := by decide +kernel
theorem dL_law_897 : decode cL_law 897 = .ok (.iaload, 1) := by decide +kernel
theorem dL_law_898 : decode cL_law 898 = .ok (.aload_n 0, 1) := by decide +kernel
theorem dL_law_899 : decode cL_law 899 = .ok (.iload 4, 2) := by decide +kernel
theorem dL_law_901 : decode cL_law 901 = .ok (.iconst 2, 1) := by decide +kernel
theorem dL_law_902 : decode cL_law 902 = .ok (.iadd, 1) := by decide +kernel
theorem dL_law_903 : decode cL_law 903 = .ok (.iaload, 1) := by decide +kernel
theorem dL_law_904 : decode cL_law 904 = .ok (.aload_n 3, 1) := by decide +kernel
theorem dL_law_905 : decode cL_law 905 = .ok (.invokestatic 183, 3) := by decide +kernel
theorem dL_law_908 : decode cL_law 908 = .ok (.istore 5, 2) := by decide +kernel
theorem dL_law_910 : decode cL_law 910 = .ok (.aload_n 2, 1) := by decide +kernel
theorem dL_law_911 : decode cL_law 911 = .ok (.aload_n 0, 1) := by decide +kernel
theorem dL_law_912 : decode cL_law 912 = .ok (.iload 4, 2) := by decide +kernel
theorem dL_law_914 : decode cL_law 914 = .ok (.iconst 1, 1) := by decide +kernel
theorem dL_law_915 : decode cL_law 915 = .ok (.iadd, 1) := by decide +kernel
theorem dL_law_916 : decode cL_law 916 = .ok (.iaload, 1) := by decide +kernel
theorem dL_law_917 : decode cL_law 917 = .ok (.aload_n 0, 1) := by decide +kernel
theorem dL_law_918 : decode cL_law 918 = .ok (.iload 4, 2) := by decide +kernel
theorem dL_law_920 : decode cL_law 920 = .ok (.iconst 2, 1) := by decide +kernel
theorem dL_law_921 : decode cL_law 921 = .ok (.iadd, 1) := by decide +kernel
theorem dL_law_922 : decode cL_law 922 = .ok (.iaload, 1) := by decide +kernel
theorem dL_law_923 : decode cL_law 923 = .ok (.invokevirtual 185, 3) := by decide +kernel
theorem dL_law_926 : decode cL_law 926 = .ok (.istore 6, 2) := by decide +kernel
theorem dL_law_928 : decode cL_law 928 = .ok (.aload_n 2, 1) := by decide +kernel
theorem dL_law_929 : decode cL_law 929 = .ok (.invokevirtual 137, 3) := by decide +kernel
theorem dL_law_932 : decode cL_law 932 = .ok (.iload 5, 2) := by decide +kernel
theorem dL_law_934 : decode cL_law 934 = .ok (.if_icmp .eq 5, 3) := by decide +kernel
theorem dL_law_937 : decode cL_law 937 = .ok (.iconst 0, 1) := by decide +kernel
theorem dL_law_938 : decode cL_law 938 = .ok (.ireturn, 1) := by decide +kernel
theorem dL_law_939 : decode cL_law 939 = .ok (.iload 5, 2) := by decide +kernel
theorem dL_law_941 : decode cL_law 941 = .ok (.ifCond .ne 15, 3) := by decide +kernel
theorem dL_law_944 : decode cL_law 944 = .ok (.aload_n 3, 1) := by decide +kernel
theorem dL_law_945 : decode cL_law 945 = .ok (.iconst 0, 1) := by decide +kernel
theorem dL_law_946 : decode cL_law 946 = .ok (.laload, 1) := by decide +kernel
theorem dL_law_947 : decode cL_law 947 = .ok (.iload 6, 2) := by decide +kernel
theorem dL_law_949 : decode cL_law 949 = .ok (.i2l, 1) := by decide +kernel
theorem dL_law_950 : decode cL_law 950 = .ok (.lcmp, 1) := by decide +kernel
theorem dL_law_951 : decode cL_law 951 = .ok (.ifCond .eq 5, 3) := by decide +kernel
theorem dL_law_954 : decode cL_law 954 = .ok (.iconst 0, 1) := by decide +kernel
theorem dL_law_955 : decode cL_law 955 = .ok (.ireturn, 1) := by decide +kernel
theorem dL_law_956 : decode cL_law 956 = .ok (.goto 1660, 3) := by decide +kernel
set_option maxHeartbeats 4000000 in
set_option maxRecDepth 100000 in
theorem lc_change {p : Program} {l : Launch} {e : Env} {s : State} {m : MethodId} {below : List Frame} {meth : Method} {c : Code} {b : Nat} {xs : Nat → Int32} {dC : Nat → ClassId} {dI : Nat → Nat → Nat} {cI cB cJ cZ : ClassId} {sa : Nat → Nat} (C0 : lw_At p s m meth c b 6 xs) (hG : ow_LG l s dC dI cI cB cJ cZ sa) {x y qo : Nat} {u : Nat → Nat} {v : List Value × (Nat → Nat)} (hv : kn_X13_init v) {H : Heap} {locs : List Loc} {ls : Array Slot} (hP : va_P (dC, dI) vwCl (wd_X11_init cI cB cJ x u ++ (wd_X13_init cI cB y v ++ [(qo, .inl (cJ, 1, .inr (.inl (fun _ => 0))))])) H) (hD : va_D (fun q : Nat => s.heap.size ≤ q) (wd_X11_init cI cB cJ x u ++ (wd_X13_init cI cB y v ++ [(qo, .inl (cJ, 1, .inr (.inl (fun _ => 0))))]))) (hS : va_S (fun q : Nat => s.heap.size ≤ q) s.heap H locs) (hl : lv_has ls 8 [(0, .ref b), (1, .ref x), (2, .ref y), (3, .ref qo), (4, .int 0)]) : W p l e room_1 s m #[Value.ref b] below meth c H locs 694 1334208 (lw_Z below #[Value.ref b] s) (F0 m 891 ls []) := by
  obtain ⟨hx, hb, hr, hml, hown, hts, hX, hbl, hlocks, hgv⟩ := id C0
  have hown : s.vm.findClass RL = some m.cls := hown
  have hA : ∀ q : Nat, s.heap.size ≤ q → (fun q : Nat => s.heap.size ≤ q) q := fun _ h => h
  have hbA : ¬ (fun q : Nat => s.heap.size ≤ q) b := Nat.not_le.mpr hbl
  have hK := hG.2.1
  have hP := hP.sub (ws' := [(x, .inr (14, [.ref (u 0), .ref (u 1), .ref (u 2), .ref (u 3), .ref (u 4), .ref (u 5), .ref (u 6), .ref (u 7), .ref (u 8), .ref (u 9), .ref (u 10), .ref (u 11), .ref (u 12), .ref (u 13), .ref (u 14), .ref (u 15), .ref (u 16), .ref (u 17), .ref (u 18)])), ((u 0), .inr (6, [.ref (u 19), .ref (u 20), .ref (u 21), .ref (u 22), .int 0])), ((u 20), .inl (cB, 40, .inl (fun _ => 0))), (y, .inr (16, v.1)), ((v.2 1), .inl (cI, 1280, .inl (fun _ => 0))), (qo, .inl (cJ, 1, .inr (.inl (fun _ => 0))))]) [0, 1, 3, 60, 62, 71] rfl
  have hD := hD.sub (ws' := [(x, .inr (14, [.ref (u 0), .ref (u 1), .ref (u 2), .ref (u 3), .ref (u 4), .ref (u 5), .ref (u 6), .ref (u 7), .ref (u 8), .ref (u 9), .ref (u 10), .ref (u 11), .ref (u 12), .ref (u 13), .ref (u 14), .ref (u 15), .ref (u 16), .ref (u 17), .ref (u 18)])), ((u 0), .inr (6, [.ref (u 19), .ref (u 20), .ref (u 21), .ref (u 22), .int 0])), ((u 20), .inl (cB, 40, .inl (fun _ => 0))), (y, .inr (16, v.1)), ((v.2 1), .inl (cI, 1280, .inl (fun _ => 0))), (qo, .inl (cJ, 1, .inr (.inl (fun _ => 0))))]) [0, 1, 3, 60, 62, 71] (by decide) rfl
  refine lv_aload_n hx hb dL_law_891 rfl (lv_at hl 1 rfl) ?_
  refine lv_aload_n hx hb dL_law_892 rfl (lv_at hl 0 rfl) ?_
  refine lv_iload hx hb dL_law_893 (lv_at hl 4 rfl) ?_
  refine lv_iconst (v := 1) hx hb dL_law_895 (by decide) ?_
  refine lv_iadd hx hb dL_law_896 ?_
  refine ow_topi (y := 1) (by decide) ?_
  refine va_sld hx hb hX hbl hbA hS (vp_in_nI (n := 1) (N := 6) (by decide) (by decide)) dL_law_897 ?_
  refine ow_topi (y := xs 1) (congrArg xs (by decide)) ?_
  refine lv_aload_n hx hb dL_law_898 rfl (lv_at hl 0 rfl) ?_
  refine lv_iload hx hb dL_law_899 (lv_at hl 4 rfl) ?_
  refine lv_iconst (v := 2) hx hb dL_law_901 (by decide) ?_
  refine lv_iadd hx hb dL_law_902 ?_
  refine ow_topi (y := 2) (by decide) ?_
  refine va_sld hx hb hX hbl hbA hS (vp_in_nI (n := 2) (N := 6) (by decide) (by decide)) dL_law_903 ?_
  refine ow_topi (y := xs 2) (congrArg xs (by decide)) ?_
  refine lv_aload_n hx hb dL_law_904 rfl (lv_at hl 3 rfl) ?_
  have hPc := hP.sub (ws' := [(x, .inr (14, [.ref (u 0), .ref (u 1), .ref (u 2), .ref (u 3), .ref (u 4), .ref (u 5), .ref (u 6), .ref (u 7), .ref (u 8), .ref (u 9), .ref (u 10), .ref (u 11), .ref (u 12), .ref (u 13), .ref (u 14), .ref (u 15), .ref (u 16), .ref (u 17), .ref (u 18)])), ((u 0), .inr (6, [.ref (u 19), .ref (u 20), .ref (u 21), .ref (u 22), .int 0])), ((u 20), .inl (cB, 40, .inl (fun _ => 0)))]) [0, 1, 2] rfl
  refine vx_calli (vx_runSX (As := [.ref x, .int (xs 1), .int (xs 2), .ref qo]) (rest := []) ⟨hx, hb, hml, hown, hts⟩ (kf_L_change l dC dI cI cB cJ cZ hG.1 x (sa 0) qo u (xs 1) (xs 2)) (vx_cwSW 4 hts gw_L_change rfl rfl rfl (by decide +kernel) ⟨(Nat.le_of_ble_eq_true rfl), (Nat.le_of_ble_eq_true rfl)⟩) ⟨fun a U g mk q => by obtain ⟨q0, qP, qK, qT⟩ := q; exact ⟨q0, qP, va_K.moved (u := U) (U := U.calling g mk a) (Vm.Alike.refl U.vm) qK, qT.same rfl rfl⟩, fun U hU hW => ⟨rfl, by rw [hU]; exact hPc, va_K.moved hW.alike hK, (hG.2.2.2.1).to hS hW hU (fun q h => h.elim)⟩⟩ rfl rfl hl.1 rfl (lv_room (Nat.le_of_ble_eq_true rfl)) dL_law_905 ⟨(Nat.le_of_ble_eq_true rfl), (Nat.le_of_ble_eq_true rfl)⟩) hS (fun q _ h => h.elim) (fun q h => h.elim) (fun q _ h => h.elim) (fun E ce q9 u9 t H1 locs1 ht hvm hp hB hz hk hS hce hcv hcl => hp.elim) (fun r7 g7 t H1 locs ht hvm hw hB hz1 hk1 hS => ?_)
  obtain rfl : r7 = 1 := hw
  have hP := hP.kept (fun k9 x9 h9 => hk1 x9.1 ((hP k9 x9 h9).lt) id)
  generalize H1 = H at hP hS ⊢
  refine W.widen (k := 695) (n := 1334214) (Nat.le_of_ble_eq_true rfl) (Nat.le_of_ble_eq_true rfl) ?_
  refine lv_istore (lv' := [(5, .int 1), (0, .ref b), (1, .ref x), (2, .ref y), (3, .ref qo), (4, .int 0)]) hx hb dL_law_908 hl (by decide) rfl (fun ls hl => ?_)
  refine lv_aload_n hx hb dL_law_910 rfl (lv_at hl 3 rfl) ?_
  refine lv_aload_n hx hb dL_law_911 rfl (lv_at hl 1 rfl) ?_
  refine lv_iload hx hb dL_law_912 (lv_at hl 5 rfl) ?_
  refine lv_iconst (v := 1) hx hb dL_law_914 (by decide) ?_
  refine lv_iadd hx hb dL_law_915 ?_
  refine ow_topi (y := 1) (by decide) ?_
  refine va_sld hx hb hX hbl hbA hS (vp_in_nI (n := 1) (N := 6) (by decide) (by decide)) dL_law_916 ?_
  refine ow_topi (y := xs 1) (congrArg xs (by decide)) ?_
  refine lv_aload_n hx hb dL_law_917 rfl (lv_at hl 1 rfl) ?_
  refine lv_iload hx hb dL_law_918 (lv_at hl 5 rfl) ?_
  refine lv_iconst (v := 2) hx hb dL_law_920 (by decide) ?_
  refine lv_iadd hx hb dL_law_921 ?_
  refine ow_topi (y := 2) (by decide) ?_
  refine va_sld hx hb hX hbl hbA hS (vp_in_nI (n := 2) (N := 6) (by decide) (by decide)) dL_law_922 ?_
  refine ow_topi (y := xs 2) (congrArg xs (by decide)) ?_
  have hPc := hP.sub (ws' := [(y, .inr (16, v.1)), ((v.2 1), .inl (cI, 1280, .inl (fun _ => 0)))]) [3, 4] rfl
  have hDc := hD.sub (ws' := [(y, .inr (16, v.1)), ((v.2 1), .inl (cI, 1280, .inl (fun _ => 0)))]) [3, 4] (by decide) rfl
  have hFc := va_free (wc := [(y, .inr (16, v.1)), ((v.2 1), .inl (cI, 1280, .inl (fun _ => 0)))]) hD hS hA [3, 4] rfl
  refine va_calli (va_runV (As := [.int (xs 1), .int (xs 2)]) (rest := []) ⟨hx, hb, hml, hown, hts⟩ (kf_X13_change l dC dI cI cB cJ cZ y (v.2 1) H.size v.1 hv.1 (hv.2.at 20 rfl) (xs 1) (xs 2)) (cwV 2 hts gw_X13_change rfl rfl rfl (by decide +kernel) ⟨(Nat.le_of_ble_eq_true rfl), (Nat.le_of_ble_eq_true rfl)⟩) ⟨fun a U g mk q => by obtain ⟨q0, q1, qP, qK, qD⟩ := q; exact ⟨q0, q1, qP, va_K.moved (u := U) (U := U.calling g mk a) (Vm.Alike.refl U.vm) qK, qD⟩, va_recv hK hPc (ci := 16) (q0 := 0) rfl rfl, fun U hU hW => ⟨rfl, by rw [hU], by rw [hU]; exact hPc, va_K.moved hW.alike hK, hDc.weaken (fun _ _ _ _ => trivial)⟩⟩ rfl rfl hl.1 rfl (lv_room (Nat.le_of_ble_eq_true rfl)) dL_law_923 ⟨(Nat.le_of_ble_eq_true rfl), (Nat.le_of_ble_eq_true rfl)⟩) hS (fun q _ h => hFc q h) hFc (fun r9 g9 t H1 locs ht hvm hw hB hz1 hk1 hS => ?_)
  obtain ⟨hP1, hD1⟩ := hB
  rw [ht] at hP1
  obtain ⟨hP, hD⟩ := va_join (wr := [(x, .inr (14, [.ref (u 0), .ref (u 1), .ref (u 2), .ref (u 3), .ref (u 4), .ref (u 5), .ref (u 6), .ref (u 7), .ref (u 8), .ref (u 9), .ref (u 10), .ref (u 11), .ref (u 12), .ref (u 13), .ref (u 14), .ref (u 15), .ref (u 16), .ref (u 17), .ref (u 18)])), ((u 0), .inr (6, [.ref (u 19), .ref (u 20), .ref (u 21), .ref (u 22), .int 0])), ((u 20), .inl (cB, 40, .inl (fun _ => 0))), (qo, .inl (cJ, 1, .inr (.inl (fun _ => 0))))]) (w1 := [(y, .inr (16, g9))]) hP hD [3, 4] [0, 1, 2, 5] rfl rfl (by decide) (by decide) hk1 hFc hP1 hD1
  generalize H1 = H at hP hS ⊢
  have hP : va_P (dC, dI) vwCl [(x, .inr (14, [.ref (u 0), .ref (u 1), .ref (u 2), .ref (u 3), .ref (u 4), .ref (u 5), .ref (u 6), .ref (u 7), .ref (u 8), .ref (u 9), .ref (u 10), .ref (u 11), .ref (u 12), .ref (u 13), .ref (u 14), .ref (u 15), .ref (u 16), .ref (u 17), .ref (u 18)])), ((u 0), .inr (6, [.ref (u 19), .ref (u 20), .ref (u 21), .ref (u 22), .int 0])), ((u 20), .inl (cB, 40, .inl (fun _ => 0))), (qo, .inl (cJ, 1, .inr (.inl (fun _ => 0)))), (y, .inr (16, g9))] H := hP
  have hD : va_D (fun q : Nat => s.heap.size ≤ q) [(x, .inr (14, [.ref (u 0), .ref (u 1), .ref (u 2), .ref (u 3), .ref (u 4), .ref (u 5), .ref (u 6), .ref (u 7), .ref (u 8), .ref (u 9), .ref (u 10), .ref (u 11), .ref (u 12), .ref (u 13), .ref (u 14), .ref (u 15), .ref (u 16), .ref (u 17), .ref (u 18)])), ((u 0), .inr (6, [.ref (u 19), .ref (u 20), .ref (u 21), .ref (u 22), .int 0])), ((u 20), .inl (cB, 40, .inl (fun _ => 0))), (qo, .inl (cJ, 1, .inr (.inl (fun _ => 0)))), (y, .inr (16, g9))] := hD
  obtain ⟨hr9, hg0⟩ := hw
  subst hr9
  refine lv_istore (lv' := [(6, .int 0), (5, .int 1), (0, .ref b), (1, .ref x), (2, .ref y), (3, .ref qo), (4, .int 0)]) hx hb dL_law_926 hl (by decide) rfl (fun ls hl => ?_)
  refine lv_aload_n hx hb dL_law_928 rfl (lv_at hl 4 rfl) ?_
  have hPc := hP.sub (ws' := [(y, .inr (16, g9))]) [4] rfl
  refine va_calli (va_runV (As := []) (rest := []) ⟨hx, hb, hml, hown, hts⟩ (kf_X13_thrownN l dC dI cI cB cJ cZ y g9 1 hg0) (cwV 0 hts gw_X13_thrown rfl rfl rfl (by decide +kernel) ⟨(Nat.le_of_ble_eq_true rfl), (Nat.le_of_ble_eq_true rfl)⟩) ⟨fun a U g mk q => by obtain ⟨q0, qP, qK⟩ := q; exact ⟨q0, qP, va_K.moved (u := U) (U := U.calling g mk a) (Vm.Alike.refl U.vm) qK⟩, va_recv hK hPc (ci := 16) (q0 := 0) rfl rfl, fun U hU hW => ⟨rfl, by rw [hU]; exact hPc, va_K.moved hW.alike hK⟩⟩ rfl rfl hl.1 rfl (lv_room (Nat.le_of_ble_eq_true rfl)) dL_law_929 ⟨(Nat.le_of_ble_eq_true rfl), (Nat.le_of_ble_eq_true rfl)⟩) hS (fun q _ h => h.elim) (fun q h => h.elim) (fun r8 un t H1 locs ht hvm hw8 hB hz1 hk1 hS => ?_)
  obtain rfl : r8 = 1 := hw8
  have hP := hP.kept (fun k9 x9 h9 => hk1 x9.1 ((hP k9 x9 h9).lt) id)
  generalize H1 = H at hP hS ⊢
  refine lv_iload hx hb dL_law_932 (lv_at hl 1 rfl) ?_
  refine lv_icmp_eq (tgt := 939) hx hb dL_law_934 (by decide) (fun _ => ?_) (fun c9 => absurd (rfl) c9)
  refine lv_iload hx hb dL_law_939 (lv_at hl 1 rfl) ?_
  refine lv_if_ne (tgt := 956) hx hb dL_law_941 (by decide) (fun _ => ?_) (fun c9 => absurd c9 (by decide))
  refine lv_goto (tgt := 2616) hx hb dL_law_956 (by decide) ?_
  exact lc_fin C0 hS (lv_sub hl [2, 6] rfl) (Nat.le_of_ble_eq_true rfl) (Nat.le_of_ble_eq_true rfl)
theorem dL_law_959 : decode cL_law 959 = .ok (.aload_n 1, 1) := by decide +kernel
theorem dL_law_960 : decode cL_law 960 = .ok (.aload_n 0, 1) := by decide +kernel
theorem dL_law_961 : decode cL_law 961 = .ok (.iload 4, 2) := by decide +kernel
theorem dL_law_963 : decode cL_law 963 = .ok (.iconst 1, 1) := by decide +kernel
theorem dL_law_964 : decode cL_law 964 = .ok (.iadd, 1) := by decide +kernel
theorem dL_law_965 : decode cL_law 965 = .ok (.iaload, 1) := by decide +kernel
theorem dL_law_966 : decode cL_law 966 = .ok (.aload_n 0, 1) := by decide +kernel
theorem dL_law_967 : decode cL_law 967 = .ok (.iload 4, 2) := by decide +kernel
theorem dL_law_969 : decode cL_law 969 = .ok (.iconst 2, 1) := by decide +kernel
theorem dL_law_970 : decode cL_law 970 = .ok (.iadd, 1) := by decide +kernel
theorem dL_law_971 : decode cL_law 971 = .ok (.iaload, 1) := by decide +kernel
theorem dL_law_972 : decode cL_law 972 = .ok (.aload_n 3, 1) := by decide +kernel
theorem dL_law_973 : decode cL_law 973 = .ok (.invokestatic 186, 3) := by decide +kernel
theorem dL_law_976 : decode cL_law 976 = .ok (.istore 5, 2) := by decide +kernel
theorem dL_law_978 : decode cL_law 978 = .ok (.aload_n 2, 1) := by decide +kernel
theorem dL_law_979 : decode cL_law 979 = .ok (.aload_n 0, 1) := by decide +kernel
theorem dL_law_980 : decode cL_law 980 = .ok (.iload 4, 2) := by decide +kernel
theorem dL_law_982 : decode cL_law 982 = .ok (.iconst 1, 1) := by decide +kernel
theorem dL_law_983 : decode cL_law 983 = .ok (.iadd, 1) := by decide +kernel
theorem dL_law_984 : decode cL_law 984 = .ok (.iaload, 1) := by decide +kernel
theorem dL_law_985 : decode cL_law 985 = .ok (.aload_n 0, 1) := by decide +kernel
theorem dL_law_986 : decode cL_law 986 = .ok (.iload 4, 2) := by decide +kernel
theorem dL_law_988 : decode cL_law 988 = .ok (.iconst 2, 1) := by decide +kernel
theorem dL_law_989 : decode cL_law 989 = .ok (.iadd, 1) := by decide +kernel
theorem dL_law_990 : decode cL_law 990 = .ok (.iaload, 1) := by decide +kernel
theorem dL_law_991 : decode cL_law 991 = .ok (.invokevirtual 188, 3) := by decide +kernel
theorem dL_law_994 : decode cL_law 994 = .ok (.istore 6, 2) := by decide +kernel
theorem dL_law_996 : decode cL_law 996 = .ok (.aload_n 2, 1) := by decide +kernel
theorem dL_law_997 : decode cL_law 997 = .ok (.invokevirtual 137, 3) := by decide +kernel
theorem dL_law_1000 : decode cL_law 1000 = .ok (.iload 5, 2) := by decide +kernel
theorem dL_law_1002 : decode cL_law 1002 = .ok (.if_icmp .eq 5, 3) := by decide +kernel
theorem dL_law_1005 : decode cL_law 1005 = .ok (.iconst 0, 1) := by decide +kernel
theorem dL_law_1006 : decode cL_law 1006 = .ok (.ireturn, 1) := by decide +kernel
theorem dL_law_1007 : decode cL_law 1007 = .ok (.iload 5, 2) := by decide +kernel
theorem dL_law_1009 : decode cL_law 1009 = .ok (.ifCond .ne 15, 3) := by decide +kernel
theorem dL_law_1012 : decode cL_law 1012 = .ok (.aload_n 3, 1) := by decide +kernel
theorem dL_law_1013 : decode cL_law 1013 = .ok (.iconst 0, 1) := by decide +kernel
theorem dL_law_1014 : decode cL_law 1014 = .ok (.laload, 1) := by decide +kernel
theorem dL_law_1015 : decode cL_law 1015 = .ok (.iload 6, 2) := by decide +kernel
theorem dL_law_1017 : decode cL_law 1017 = .ok (.i2l, 1) := by decide +kernel
theorem dL_law_1018 : decode cL_law 1018 = .ok (.lcmp, 1) := by decide +kernel
theorem dL_law_1019 : decode cL_law 1019 = .ok (.ifCond .eq 5, 3) := by decide +kernel
theorem dL_law_1022 : decode cL_law 1022 = .ok (.iconst 0, 1) := by decide +kernel
theorem dL_law_1023 : decode cL_law 1023 = .ok (.ireturn, 1) := by decide +kernel
theorem dL_law_1024 : decode cL_law 1024 = .ok (.goto 1592, 3) := by decide +kernel
set_option maxHeartbeats 4000000 in
set_option maxRecDepth 100000 in
theorem lc_smooth {p : Program} {l : Launch} {e : Env} {s : State} {m : MethodId} {below : List Frame} {meth : Method} {c : Code} {b : Nat} {xs : Nat → Int32} {dC : Nat → ClassId} {dI : Nat → Nat → Nat} {cI cB cJ cZ : ClassId} {sa : Nat → Nat} (C0 : lw_At p s m meth c b 6 xs) (hG : ow_LG l s dC dI cI cB cJ cZ sa) {x y qo : Nat} {u : Nat → Nat} {v : List Value × (Nat → Nat)} (hv : kn_X13_init v) {H : Heap} {locs : List Loc} {ls : Array Slot} (hP : va_P (dC, dI) vwCl (wd_X11_init cI cB cJ x u ++ (wd_X13_init cI cB y v ++ [(qo, .inl (cJ, 1, .inr (.inl (fun _ => 0))))])) H) (hD : va_D (fun q : Nat => s.heap.size ≤ q) (wd_X11_init cI cB cJ x u ++ (wd_X13_init cI cB y v ++ [(qo, .inl (cJ, 1, .inr (.inl (fun _ => 0))))]))) (hS : va_S (fun q : Nat => s.heap.size ≤ q) s.heap H locs) (hl : lv_has ls 8 [(0, .ref b), (1, .ref x), (2, .ref y), (3, .ref qo), (4, .int 0)]) : W p l e room_1 s m #[Value.ref b] below meth c H locs 694 1334208 (lw_Z below #[Value.ref b] s) (F0 m 959 ls []) := by
  obtain ⟨hx, hb, hr, hml, hown, hts, hX, hbl, hlocks, hgv⟩ := id C0
  have hown : s.vm.findClass RL = some m.cls := hown
  have hA : ∀ q : Nat, s.heap.size ≤ q → (fun q : Nat => s.heap.size ≤ q) q := fun _ h => h
  have hbA : ¬ (fun q : Nat => s.heap.size ≤ q) b := Nat.not_le.mpr hbl
  have hK := hG.2.1
  have hP := hP.sub (ws' := [(x, .inr (14, [.ref (u 0), .ref (u 1), .ref (u 2), .ref (u 3), .ref (u 4), .ref (u 5), .ref (u 6), .ref (u 7), .ref (u 8), .ref (u 9), .ref (u 10), .ref (u 11), .ref (u 12), .ref (u 13), .ref (u 14), .ref (u 15), .ref (u 16), .ref (u 17), .ref (u 18)])), ((u 0), .inr (6, [.ref (u 19), .ref (u 20), .ref (u 21), .ref (u 22), .int 0])), ((u 20), .inl (cB, 40, .inl (fun _ => 0))), (y, .inr (16, v.1)), ((v.2 1), .inl (cI, 1280, .inl (fun _ => 0))), (qo, .inl (cJ, 1, .inr (.inl (fun _ => 0))))]) [0, 1, 3, 60, 62, 71] rfl
  have hD := hD.sub (ws' := [(x, .inr (14, [.ref (u 0), .ref (u 1), .ref (u 2), .ref (u 3), .ref (u 4), .ref (u 5), .ref (u 6), .ref (u 7), .ref (u 8), .ref (u 9), .ref (u 10), .ref (u 11), .ref (u 12), .ref (u 13), .ref (u 14), .ref (u 15), .ref (u 16), .ref (u 17), .ref (u 18)])), ((u 0), .inr (6, [.ref (u 19), .ref (u 20), .ref (u 21), .ref (u 22), .int 0])), ((u 20), .inl (cB, 40, .inl (fun _ => 0))), (y, .inr (16, v.1)), ((v.2 1), .inl (cI, 1280, .inl (fun _ => 0))), (qo, .inl (cJ, 1, .inr (.inl (fun _ => 0))))]) [0, 1, 3, 60, 62, 71] (by decide) rfl
  refine lv_aload_n hx hb dL_law_959 rfl (lv_at hl 1 rfl) ?_
  refine lv_aload_n hx hb dL_law_960 rfl (lv_at hl 0 rfl) ?_
  refine lv_iload hx hb dL_law_961 (lv_at hl 4 rfl) ?_
  refine lv_iconst (v := 1) hx hb dL_law_963 (by decide) ?_
  refine lv_iadd hx hb dL_law_964 ?_
  refine ow_topi (y := 1) (by decide) ?_
  refine va_sld hx hb hX hbl hbA hS (vp_in_nI (n := 1) (N := 6) (by decide) (by decide)) dL_law_965 ?_
  refine ow_topi (y := xs 1) (congrArg xs (by decide)) ?_
  refine lv_aload_n hx hb dL_law_966 rfl (lv_at hl 0 rfl) ?_
  refine lv_iload hx hb dL_law_967 (lv_at hl 4 rfl) ?_
  refine lv_iconst (v := 2) hx hb dL_law_969 (by decide) ?_
  refine lv_iadd hx hb dL_law_970 ?_
  refine ow_topi (y := 2) (by decide) ?_
  refine va_sld hx hb hX hbl hbA hS (vp_in_nI (n := 2) (N := 6) (by decide) (by decide)) dL_law_971 ?_
  refine ow_topi (y := xs 2) (congrArg xs (by decide)) ?_
  refine lv_aload_n hx hb dL_law_972 rfl (lv_at hl 3 rfl) ?_
  have hPc := hP.sub (ws' := [(x, .inr (14, [.ref (u 0), .ref (u 1), .ref (u 2), .ref (u 3), .ref (u 4), .ref (u 5), .ref (u 6), .ref (u 7), .ref (u 8), .ref (u 9), .ref (u 10), .ref (u 11), .ref (u 12), .ref (u 13), .ref (u 14), .ref (u 15), .ref (u 16), .ref (u 17), .ref (u 18)])), ((u 0), .inr (6, [.ref (u 19), .ref (u 20), .ref (u 21), .ref (u 22), .int 0])), ((u 20), .inl (cB, 40, .inl (fun _ => 0)))]) [0, 1, 2] rfl
  refine vx_calli (vx_runSX (As := [.ref x, .int (xs 1), .int (xs 2), .ref qo]) (rest := []) ⟨hx, hb, hml, hown, hts⟩ (kf_L_smooth l dC dI cI cB cJ cZ hG.1 x (sa 0) qo u (xs 1) (xs 2)) (vx_cwSW 4 hts gw_L_smooth rfl rfl rfl (by decide +kernel) ⟨(Nat.le_of_ble_eq_true rfl), (Nat.le_of_ble_eq_true rfl)⟩) ⟨fun a U g mk q => by obtain ⟨q0, qP, qK, qT⟩ := q; exact ⟨q0, qP, va_K.moved (u := U) (U := U.calling g mk a) (Vm.Alike.refl U.vm) qK, qT.same rfl rfl⟩, fun U hU hW => ⟨rfl, by rw [hU]; exact hPc, va_K.moved hW.alike hK, (hG.2.2.2.1).to hS hW hU (fun q h => h.elim)⟩⟩ rfl rfl hl.1 rfl (lv_room (Nat.le_of_ble_eq_true rfl)) dL_law_973 ⟨(Nat.le_of_ble_eq_true rfl), (Nat.le_of_ble_eq_true rfl)⟩) hS (fun q _ h => h.elim) (fun q h => h.elim) (fun q _ h => h.elim) (fun E ce q9 u9 t H1 locs1 ht hvm hp hB hz hk hS hce hcv hcl => hp.elim) (fun r7 g7 t H1 locs ht hvm hw hB hz1 hk1 hS => ?_)
  obtain rfl : r7 = 1 := hw
  have hP := hP.kept (fun k9 x9 h9 => hk1 x9.1 ((hP k9 x9 h9).lt) id)
  generalize H1 = H at hP hS ⊢
  refine W.widen (k := 695) (n := 1334214) (Nat.le_of_ble_eq_true rfl) (Nat.le_of_ble_eq_true rfl) ?_
  refine lv_istore (lv' := [(5, .int 1), (0, .ref b), (1, .ref x), (2, .ref y), (3, .ref qo), (4, .int 0)]) hx hb dL_law_976 hl (by decide) rfl (fun ls hl => ?_)
  refine lv_aload_n hx hb dL_law_978 rfl (lv_at hl 3 rfl) ?_
  refine lv_aload_n hx hb dL_law_979 rfl (lv_at hl 1 rfl) ?_
  refine lv_iload hx hb dL_law_980 (lv_at hl 5 rfl) ?_
  refine lv_iconst (v := 1) hx hb dL_law_982 (by decide) ?_
  refine lv_iadd hx hb dL_law_983 ?_
  refine ow_topi (y := 1) (by decide) ?_
  refine va_sld hx hb hX hbl hbA hS (vp_in_nI (n := 1) (N := 6) (by decide) (by decide)) dL_law_984 ?_
  refine ow_topi (y := xs 1) (congrArg xs (by decide)) ?_
  refine lv_aload_n hx hb dL_law_985 rfl (lv_at hl 1 rfl) ?_
  refine lv_iload hx hb dL_law_986 (lv_at hl 5 rfl) ?_
  refine lv_iconst (v := 2) hx hb dL_law_988 (by decide) ?_
  refine lv_iadd hx hb dL_law_989 ?_
  refine ow_topi (y := 2) (by decide) ?_
  refine va_sld hx hb hX hbl hbA hS (vp_in_nI (n := 2) (N := 6) (by decide) (by decide)) dL_law_990 ?_
  refine ow_topi (y := xs 2) (congrArg xs (by decide)) ?_
  have hPc := hP.sub (ws' := [(y, .inr (16, v.1)), ((v.2 1), .inl (cI, 1280, .inl (fun _ => 0)))]) [3, 4] rfl
  have hDc := hD.sub (ws' := [(y, .inr (16, v.1)), ((v.2 1), .inl (cI, 1280, .inl (fun _ => 0)))]) [3, 4] (by decide) rfl
  have hFc := va_free (wc := [(y, .inr (16, v.1)), ((v.2 1), .inl (cI, 1280, .inl (fun _ => 0)))]) hD hS hA [3, 4] rfl
  refine va_calli (va_runV (As := [.int (xs 1), .int (xs 2)]) (rest := []) ⟨hx, hb, hml, hown, hts⟩ (kf_X13_smooth l dC dI cI cB cJ cZ y (v.2 1) H.size v.1 hv.1 (hv.2.at 20 rfl) (xs 1) (xs 2)) (cwV 2 hts gw_X13_smooth rfl rfl rfl (by decide +kernel) ⟨(Nat.le_of_ble_eq_true rfl), (Nat.le_of_ble_eq_true rfl)⟩) ⟨fun a U g mk q => by obtain ⟨q0, q1, qP, qK, qD⟩ := q; exact ⟨q0, q1, qP, va_K.moved (u := U) (U := U.calling g mk a) (Vm.Alike.refl U.vm) qK, qD⟩, va_recv hK hPc (ci := 16) (q0 := 0) rfl rfl, fun U hU hW => ⟨rfl, by rw [hU], by rw [hU]; exact hPc, va_K.moved hW.alike hK, hDc.weaken (fun _ _ _ _ => trivial)⟩⟩ rfl rfl hl.1 rfl (lv_room (Nat.le_of_ble_eq_true rfl)) dL_law_991 ⟨(Nat.le_of_ble_eq_true rfl), (Nat.le_of_ble_eq_true rfl)⟩) hS (fun q _ h => hFc q h) hFc (fun r9 g9 t H1 locs ht hvm hw hB hz1 hk1 hS => ?_)
  obtain ⟨hP1, hD1⟩ := hB
  rw [ht] at hP1
  obtain ⟨hP, hD⟩ := va_join (wr := [(x, .inr (14, [.ref (u 0), .ref (u 1), .ref (u 2), .ref (u 3), .ref (u 4), .ref (u 5), .ref (u 6), .ref (u 7), .ref (u 8), .ref (u 9), .ref (u 10), .ref (u 11), .ref (u 12), .ref (u 13), .ref (u 14), .ref (u 15), .ref (u 16), .ref (u 17), .ref (u 18)])), ((u 0), .inr (6, [.ref (u 19), .ref (u 20), .ref (u 21), .ref (u 22), .int 0])), ((u 20), .inl (cB, 40, .inl (fun _ => 0))), (qo, .inl (cJ, 1, .inr (.inl (fun _ => 0))))]) (w1 := [(y, .inr (16, g9))]) hP hD [3, 4] [0, 1, 2, 5] rfl rfl (by decide) (by decide) hk1 hFc hP1 hD1
  generalize H1 = H at hP hS ⊢
  have hP : va_P (dC, dI) vwCl [(x, .inr (14, [.ref (u 0), .ref (u 1), .ref (u 2), .ref (u 3), .ref (u 4), .ref (u 5), .ref (u 6), .ref (u 7), .ref (u 8), .ref (u 9), .ref (u 10), .ref (u 11), .ref (u 12), .ref (u 13), .ref (u 14), .ref (u 15), .ref (u 16), .ref (u 17), .ref (u 18)])), ((u 0), .inr (6, [.ref (u 19), .ref (u 20), .ref (u 21), .ref (u 22), .int 0])), ((u 20), .inl (cB, 40, .inl (fun _ => 0))), (qo, .inl (cJ, 1, .inr (.inl (fun _ => 0)))), (y, .inr (16, g9))] H := hP
  have hD : va_D (fun q : Nat => s.heap.size ≤ q) [(x, .inr (14, [.ref (u 0), .ref (u 1), .ref (u 2), .ref (u 3), .ref (u 4), .ref (u 5), .ref (u 6), .ref (u 7), .ref (u 8), .ref (u 9), .ref (u 10), .ref (u 11), .ref (u 12), .ref (u 13), .ref (u 14), .ref (u 15), .ref (u 16), .ref (u 17), .ref (u 18)])), ((u 0), .inr (6, [.ref (u 19), .ref (u 20), .ref (u 21), .ref (u 22), .int 0])), ((u 20), .inl (cB, 40, .inl (fun _ => 0))), (qo, .inl (cJ, 1, .inr (.inl (fun _ => 0)))), (y, .inr (16, g9))] := hD
  obtain ⟨hr9, hg0⟩ := hw
  subst hr9
  refine lv_istore (lv' := [(6, .int 0), (5, .int 1), (0, .ref b), (1, .ref x), (2, .ref y), (3, .ref qo), (4, .int 0)]) hx hb dL_law_994 hl (by decide) rfl (fun ls hl => ?_)
  refine lv_aload_n hx hb dL_law_996 rfl (lv_at hl 4 rfl) ?_
  have hPc := hP.sub (ws' := [(y, .inr (16, g9))]) [4] rfl
  refine va_calli (va_runV (As := []) (rest := []) ⟨hx, hb, hml, hown, hts⟩ (kf_X13_thrownN l dC dI cI cB cJ cZ y g9 1 hg0) (cwV 0 hts gw_X13_thrown rfl rfl rfl (by decide +kernel) ⟨(Nat.le_of_ble_eq_true rfl), (Nat.le_of_ble_eq_true rfl)⟩) ⟨fun a U g mk q => by obtain ⟨q0, qP, qK⟩ := q; exact ⟨q0, qP, va_K.moved (u := U) (U := U.calling g mk a) (Vm.Alike.refl U.vm) qK⟩, va_recv hK hPc (ci := 16) (q0 := 0) rfl rfl, fun U hU hW => ⟨rfl, by rw [hU]; exact hPc, va_K.moved hW.alike hK⟩⟩ rfl rfl hl.1 rfl (lv_room (Nat.le_of_ble_eq_true rfl)) dL_law_997 ⟨(Nat.le_of_ble_eq_true rfl), (Nat.le_of_ble_eq_true rfl)⟩) hS (fun q _ h => h.elim) (fun q h => h.elim) (fun r8 un t H1 locs ht hvm hw8 hB hz1 hk1 hS => ?_)
  obtain rfl : r8 = 1 := hw8
  have hP := hP.kept (fun k9 x9 h9 => hk1 x9.1 ((hP k9 x9 h9).lt) id)
  generalize H1 = H at hP hS ⊢
  refine lv_iload hx hb dL_law_1000 (lv_at hl 1 rfl) ?_
  refine lv_icmp_eq (tgt := 1007) hx hb dL_law_1002 (by decide) (fun _ => ?_) (fun c9 => absurd (rfl) c9)
  refine lv_iload hx hb dL_law_1007 (lv_at hl 1 rfl) ?_
  refine lv_if_ne (tgt := 1024) hx hb dL_law_1009 (by decide) (fun _ => ?_) (fun c9 => absurd c9 (by decide))
  refine lv_goto (tgt := 2616) hx hb dL_law_1024 (by decide) ?_
  exact lc_fin C0 hS (lv_sub hl [2, 6] rfl) (Nat.le_of_ble_eq_true rfl) (Nat.le_of_ble_eq_true rfl)
theorem dL_law_1027 : decode cL_law 1027 = .ok (.aload_n 1, 1) := by decide +kernel
theorem dL_law_1028 : decode cL_law 1028 = .ok (.aload_n 0, 1) := by decide +kernel
theorem dL_law_1029 : decode cL_law 1029 = .ok (.iload 4, 2) := by decide +kernel
theorem dL_law_1031 : decode cL_law 1031 = .ok (.iconst 1, 1) := by decide +kernel
theorem dL_law_1032 : decode cL_law 1032 = .ok (.iadd, 1) := by decide +kernel
theorem dL_law_1033 : decode cL_law 1033 = .ok (.iaload, 1) := by decide +kernel
theorem dL_law_1034 : decode cL_law 1034 = .ok (.aload_n 0, 1) := by decide +kernel
theorem dL_law_1035 : decode cL_law 1035 = .ok (.iload 4, 2) := by decide +kernel
theorem dL_law_1037 : decode cL_law 1037 = .ok (.iconst 2, 1) := by decide +kernel
theorem dL_law_1038 : decode cL_law 1038 = .ok (.iadd, 1) := by decide +kernel
theorem dL_law_1039 : decode cL_law 1039 = .ok (.iaload, 1) := by decide +kernel
theorem dL_law_1040 : decode cL_law 1040 = .ok (.aload_n 3, 1) := by decide +kernel
theorem dL_law_1041 : decode cL_law 1041 = .ok (.invokestatic 189, 3) := by decide +kernel
theorem dL_law_1044 : decode cL_law 1044 = .ok (.istore 5, 2) := by decide +kernel
theorem dL_law_1046 : decode cL_law 1046 = .ok (.aload_n 2, 1) := by decide +kernel
theorem dL_law_1047 : decode cL_law 1047 = .ok (.aload_n 0, 1) := by decide +kernel
theorem dL_law_1048 : decode cL_law 1048 = .ok (.iload 4, 2) := by decide +kernel
theorem dL_law_1050 : decode cL_law 1050 = .ok (.iconst 1, 1) := by decide +kernel
theorem dL_law_1051 : decode cL_law 1051 = .ok (.iadd, 1) := by decide +kernel
theorem dL_law_1052 : decode cL_law 1052 = .ok (.iaload, 1) := by decide +kernel
theorem dL_law_1053 : decode cL_law 1053 = .ok (.aload_n 0, 1) := by decide +kernel
theorem dL_law_1054 : decode cL_law 1054 = .ok (.iload 4, 2) := by decide +kernel
theorem dL_law_1056 : decode cL_law 1056 = .ok (.iconst 2, 1) := by decide +kernel
theorem dL_law_1057 : decode cL_law 1057 = .ok (.iadd, 1) := by decide +kernel
theorem dL_law_1058 : decode cL_law 1058 = .ok (.iaload, 1) := by decide +kernel
theorem dL_law_1059 : decode cL_law 1059 = .ok (.invokevirtual 191, 3) := by decide +kernel
theorem dL_law_1062 : decode cL_law 1062 = .ok (.istore 6, 2) := by decide +kernel
theorem dL_law_1064 : decode cL_law 1064 = .ok (.aload_n 2, 1) := by decide +kernel
theorem dL_law_1065 : decode cL_law 1065 = .ok (.invokevirtual 137, 3) := by decide +kernel
theorem dL_law_1068 : decode cL_law 1068 = .ok (.iload 5, 2) := by decide +kernel
theorem dL_law_1070 : decode cL_law 1070 = .ok (.if_icmp .eq 5, 3) := by decide +kernel
theorem dL_law_1073 : decode cL_law 1073 = .ok (.iconst 0, 1) := by decide +kernel
theorem dL_law_1074 : decode cL_law 1074 = .ok (.ireturn, 1) := by decide +kernel
theorem dL_law_1075 : decode cL_law 1075 = .ok (.iload 5, 2) := by decide +kernel
theorem dL_law_1077 : decode cL_law 1077 = .ok (.ifCond .ne 15, 3) := by decide +kernel
theorem dL_law_1080 : decode cL_law 1080 = .ok (.aload_n 3, 1) := by decide +kernel
theorem dL_law_1081 : decode cL_law 1081 = .ok (.iconst 0, 1) := by decide +kernel
theorem dL_law_1082 : decode cL_law 1082 = .ok (.laload, 1) := by decide +kernel
theorem dL_law_1083 : decode cL_law 1083 = .ok (.iload 6, 2) := by decide +kernel
theorem dL_law_1085 : decode cL_law 1085 = .ok (.i2l, 1) := by decide +kernel
theorem dL_law_1086 : decode cL_law 1086 = .ok (.lcmp, 1) := by decide +kernel
theorem dL_law_1087 : decode cL_law 1087 = .ok (.ifCond .eq 5, 3) := by decide +kernel
theorem dL_law_1090 : decode cL_law 1090 = .ok (.iconst 0, 1) := by decide +kernel
theorem dL_law_1091 : decode cL_law 1091 = .ok (.ireturn, 1) := by decide +kernel
theorem dL_law_1092 : decode cL_law 1092 = .ok (.goto 1524, 3) := by decide +kernel
set_option maxHeartbeats 4000000 in
set_option maxRecDepth 100000 in
theorem lc_apart {p : Program} {l : Launch} {e : Env} {s : State} {m : MethodId} {below : List Frame} {meth : Method} {c : Code} {b : Nat} {xs : Nat → Int32} {dC : Nat → ClassId} {dI : Nat → Nat → Nat} {cI cB cJ cZ : ClassId} {sa : Nat → Nat} (C0 : lw_At p s m meth c b 6 xs) (hG : ow_LG l s dC dI cI cB cJ cZ sa) {x y qo : Nat} {u : Nat → Nat} {v : List Value × (Nat → Nat)} (hv : kn_X13_init v) {H : Heap} {locs : List Loc} {ls : Array Slot} (hP : va_P (dC, dI) vwCl (wd_X11_init cI cB cJ x u ++ (wd_X13_init cI cB y v ++ [(qo, .inl (cJ, 1, .inr (.inl (fun _ => 0))))])) H) (hD : va_D (fun q : Nat => s.heap.size ≤ q) (wd_X11_init cI cB cJ x u ++ (wd_X13_init cI cB y v ++ [(qo, .inl (cJ, 1, .inr (.inl (fun _ => 0))))]))) (hS : va_S (fun q : Nat => s.heap.size ≤ q) s.heap H locs) (hl : lv_has ls 8 [(0, .ref b), (1, .ref x), (2, .ref y), (3, .ref qo), (4, .int 0)]) : W p l e room_1 s m #[Value.ref b] below meth c H locs 694 1334208 (lw_Z below #[Value.ref b] s) (F0 m 1027 ls []) := by
  obtain ⟨hx, hb, hr, hml, hown, hts, hX, hbl, hlocks, hgv⟩ := id C0
  have hown : s.vm.findClass RL = some m.cls := hown
  have hA : ∀ q : Nat, s.heap.size ≤ q → (fun q : Nat => s.heap.size ≤ q) q := fun _ h => h
  have hbA : ¬ (fun q : Nat => s.heap.size ≤ q) b := Nat.not_le.mpr hbl
  have hK := hG.2.1
  have hP := hP.sub (ws' := [(x, .inr (14, [.ref (u 0), .ref (u 1), .ref (u 2), .ref (u 3), .ref (u 4), .ref (u 5), .ref (u 6), .ref (u 7), .ref (u 8), .ref (u 9), .ref (u 10), .ref (u 11), .ref (u 12), .ref (u 13), .ref (u 14), .ref (u 15), .ref (u 16), .ref (u 17), .ref (u 18)])), ((u 0), .inr (6, [.ref (u 19), .ref (u 20), .ref (u 21), .ref (u 22), .int 0])), ((u 20), .inl (cB, 40, .inl (fun _ => 0))), (y, .inr (16, v.1)), ((v.2 1), .inl (cI, 1280, .inl (fun _ => 0))), (qo, .inl (cJ, 1, .inr (.inl (fun _ => 0))))]) [0, 1, 3, 60, 62, 71] rfl
  have hD := hD.sub (ws' := [(x, .inr (14, [.ref (u 0), .ref (u 1), .ref (u 2), .ref (u 3), .ref (u 4), .ref (u 5), .ref (u 6), .ref (u 7), .ref (u 8), .ref (u 9), .ref (u 10), .ref (u 11), .ref (u 12), .ref (u 13), .ref (u 14), .ref (u 15), .ref (u 16), .ref (u 17), .ref (u 18)])), ((u 0), .inr (6, [.ref (u 19), .ref (u 20), .ref (u 21), .ref (u 22), .int 0])), ((u 20), .inl (cB, 40, .inl (fun _ => 0))), (y, .inr (16, v.1)), ((v.2 1), .inl (cI, 1280, .inl (fun _ => 0))), (qo, .inl (cJ, 1, .inr (.inl (fun _ => 0))))]) [0, 1, 3, 60, 62, 71] (by decide) rfl
  refine lv_aload_n hx hb dL_law_1027 rfl (lv_at hl 1 rfl) ?_
  refine lv_aload_n hx hb dL_law_1028 rfl (lv_at hl 0 rfl) ?_
  refine lv_iload hx hb dL_law_1029 (lv_at hl 4 rfl) ?_
  refine lv_iconst (v := 1) hx hb dL_law_1031 (by decide) ?_
  refine lv_iadd hx hb dL_law_1032 ?_
  refine ow_topi (y := 1) (by decide) ?_
  refine va_sld hx hb hX hbl hbA hS (vp_in_nI (n := 1) (N := 6) (by decide) (by decide)) dL_law_1033 ?_
  refine ow_topi (y := xs 1) (congrArg xs (by decide)) ?_
  refine lv_aload_n hx hb dL_law_1034 rfl (lv_at hl 0 rfl) ?_
  refine lv_iload hx hb dL_law_1035 (lv_at hl 4 rfl) ?_
  refine lv_iconst (v := 2) hx hb dL_law_1037 (by decide) ?_
  refine lv_iadd hx hb dL_law_1038 ?_
  refine ow_topi (y := 2) (by decide) ?_
  refine va_sld hx hb hX hbl hbA hS (vp_in_nI (n := 2) (N := 6) (by decide) (by decide)) dL_law_1039 ?_
  refine ow_topi (y := xs 2) (congrArg xs (by decide)) ?_
  refine lv_aload_n hx hb dL_law_1040 rfl (lv_at hl 3 rfl) ?_
  have hPc := hP.sub (ws' := [(x, .inr (14, [.ref (u 0), .ref (u 1), .ref (u 2), .ref (u 3), .ref (u 4), .ref (u 5), .ref (u 6), .ref (u 7), .ref (u 8), .ref (u 9), .ref (u 10), .ref (u 11), .ref (u 12), .ref (u 13), .ref (u 14), .ref (u 15), .ref (u 16), .ref (u 17), .ref (u 18)])), ((u 0), .inr (6, [.ref (u 19), .ref (u 20), .ref (u 21), .ref (u 22), .int 0])), ((u 20), .inl (cB, 40, .inl (fun _ => 0)))]) [0, 1, 2] rfl
  refine vx_calli (vx_runSX (As := [.ref x, .int (xs 1), .int (xs 2), .ref qo]) (rest := []) ⟨hx, hb, hml, hown, hts⟩ (kf_L_apart l dC dI cI cB cJ cZ hG.1 x (sa 0) qo u (xs 1) (xs 2)) (vx_cwSW 4 hts gw_L_apart rfl rfl rfl (by decide +kernel) ⟨(Nat.le_of_ble_eq_true rfl), (Nat.le_of_ble_eq_true rfl)⟩) ⟨fun a U g mk q => by obtain ⟨q0, qP, qK, qT⟩ := q; exact ⟨q0, qP, va_K.moved (u := U) (U := U.calling g mk a) (Vm.Alike.refl U.vm) qK, qT.same rfl rfl⟩, fun U hU hW => ⟨rfl, by rw [hU]; exact hPc, va_K.moved hW.alike hK, (hG.2.2.2.1).to hS hW hU (fun q h => h.elim)⟩⟩ rfl rfl hl.1 rfl (lv_room (Nat.le_of_ble_eq_true rfl)) dL_law_1041 ⟨(Nat.le_of_ble_eq_true rfl), (Nat.le_of_ble_eq_true rfl)⟩) hS (fun q _ h => h.elim) (fun q h => h.elim) (fun q _ h => h.elim) (fun E ce q9 u9 t H1 locs1 ht hvm hp hB hz hk hS hce hcv hcl => hp.elim) (fun r7 g7 t H1 locs ht hvm hw hB hz1 hk1 hS => ?_)
  obtain rfl : r7 = 1 := hw
  have hP := hP.kept (fun k9 x9 h9 => hk1 x9.1 ((hP k9 x9 h9).lt) id)
  generalize H1 = H at hP hS ⊢
  refine W.widen (k := 695) (n := 1334214) (Nat.le_of_ble_eq_true rfl) (Nat.le_of_ble_eq_true rfl) ?_
  refine lv_istore (lv' := [(5, .int 1), (0, .ref b), (1, .ref x), (2, .ref y), (3, .ref qo), (4, .int 0)]) hx hb dL_law_1044 hl (by decide) rfl (fun ls hl => ?_)
  refine lv_aload_n hx hb dL_law_1046 rfl (lv_at hl 3 rfl) ?_
  refine lv_aload_n hx hb dL_law_1047 rfl (lv_at hl 1 rfl) ?_
  refine lv_iload hx hb dL_law_1048 (lv_at hl 5 rfl) ?_
  refine lv_iconst (v := 1) hx hb dL_law_1050 (by decide) ?_
  refine lv_iadd hx hb dL_law_1051 ?_
  refine ow_topi (y := 1) (by decide) ?_
  refine va_sld hx hb hX hbl hbA hS (vp_in_nI (n := 1) (N := 6) (by decide) (by decide)) dL_law_1052 ?_
  refine ow_topi (y := xs 1) (congrArg xs (by decide)) ?_
  refine lv_aload_n hx hb dL_law_1053 rfl (lv_at hl 1 rfl) ?_
  refine lv_iload hx hb dL_law_1054 (lv_at hl 5 rfl) ?_
  refine lv_iconst (v := 2) hx hb dL_law_1056 (by decide) ?_
  refine lv_iadd hx hb dL_law_1057 ?_
  refine ow_topi (y := 2) (by decide) ?_
  refine va_sld hx hb hX hbl hbA hS (vp_in_nI (n := 2) (N := 6) (by decide) (by decide)) dL_law_1058 ?_
  refine ow_topi (y := xs 2) (congrArg xs (by decide)) ?_
  have hPc := hP.sub (ws' := [(y, .inr (16, v.1)), ((v.2 1), .inl (cI, 1280, .inl (fun _ => 0)))]) [3, 4] rfl
  have hDc := hD.sub (ws' := [(y, .inr (16, v.1)), ((v.2 1), .inl (cI, 1280, .inl (fun _ => 0)))]) [3, 4] (by decide) rfl
  have hFc := va_free (wc := [(y, .inr (16, v.1)), ((v.2 1), .inl (cI, 1280, .inl (fun _ => 0)))]) hD hS hA [3, 4] rfl
  refine va_calli (va_runV (As := [.int (xs 1), .int (xs 2)]) (rest := []) ⟨hx, hb, hml, hown, hts⟩ (kf_X13_apart l dC dI cI cB cJ cZ y (v.2 1) H.size v.1 hv.1 (hv.2.at 20 rfl) (xs 1) (xs 2)) (cwV 2 hts gw_X13_apart rfl rfl rfl (by decide +kernel) ⟨(Nat.le_of_ble_eq_true rfl), (Nat.le_of_ble_eq_true rfl)⟩) ⟨fun a U g mk q => by obtain ⟨q0, q1, qP, qK, qD⟩ := q; exact ⟨q0, q1, qP, va_K.moved (u := U) (U := U.calling g mk a) (Vm.Alike.refl U.vm) qK, qD⟩, va_recv hK hPc (ci := 16) (q0 := 0) rfl rfl, fun U hU hW => ⟨rfl, by rw [hU], by rw [hU]; exact hPc, va_K.moved hW.alike hK, hDc.weaken (fun _ _ _ _ => trivial)⟩⟩ rfl rfl hl.1 rfl (lv_room (Nat.le_of_ble_eq_true rfl)) dL_law_1059 ⟨(Nat.le_of_ble_eq_true rfl), (Nat.le_of_ble_eq_true rfl)⟩) hS (fun q _ h => hFc q h) hFc (fun r9 g9 t H1 locs ht hvm hw hB hz1 hk1 hS => ?_)
  obtain ⟨hP1, hD1⟩ := hB
  rw [ht] at hP1
  obtain ⟨hP, hD⟩ := va_join (wr := [(x, .inr (14, [.ref (u 0), .ref (u 1), .ref (u 2), .ref (u 3), .ref (u 4), .ref (u 5), .ref (u 6), .ref (u 7), .ref (u 8), .ref (u 9), .ref (u 10), .ref (u 11), .ref (u 12), .ref (u 13), .ref (u 14), .ref (u 15), .ref (u 16), .ref (u 17), .ref (u 18)])), ((u 0), .inr (6, [.ref (u 19), .ref (u 20), .ref (u 21), .ref (u 22), .int 0])), ((u 20), .inl (cB, 40, .inl (fun _ => 0))), (qo, .inl (cJ, 1, .inr (.inl (fun _ => 0))))]) (w1 := [(y, .inr (16, g9))]) hP hD [3, 4] [0, 1, 2, 5] rfl rfl (by decide) (by decide) hk1 hFc hP1 hD1
  generalize H1 = H at hP hS ⊢
  have hP : va_P (dC, dI) vwCl [(x, .inr (14, [.ref (u 0), .ref (u 1), .ref (u 2), .ref (u 3), .ref (u 4), .ref (u 5), .ref (u 6), .ref (u 7), .ref (u 8), .ref (u 9), .ref (u 10), .ref (u 11), .ref (u 12), .ref (u 13), .ref (u 14), .ref (u 15), .ref (u 16), .ref (u 17), .ref (u 18)])), ((u 0), .inr (6, [.ref (u 19), .ref (u 20), .ref (u 21), .ref (u 22), .int 0])), ((u 20), .inl (cB, 40, .inl (fun _ => 0))), (qo, .inl (cJ, 1, .inr (.inl (fun _ => 0)))), (y, .inr (16, g9))] H := hP
  have hD : va_D (fun q : Nat => s.heap.size ≤ q) [(x, .inr (14, [.ref (u 0), .ref (u 1), .ref (u 2), .ref (u 3), .ref (u 4), .ref (u 5), .ref (u 6), .ref (u 7), .ref (u 8), .ref (u 9), .ref (u 10), .ref (u 11), .ref (u 12), .ref (u 13), .ref (u 14), .ref (u 15), .ref (u 16), .ref (u 17), .ref (u 18)])), ((u 0), .inr (6, [.ref (u 19), .ref (u 20), .ref (u 21), .ref (u 22), .int 0])), ((u 20), .inl (cB, 40, .inl (fun _ => 0))), (qo, .inl (cJ, 1, .inr (.inl (fun _ => 0)))), (y, .inr (16, g9))] := hD
  obtain ⟨hr9, hg0⟩ := hw
  subst hr9
  refine lv_istore (lv' := [(6, .int 0), (5, .int 1), (0, .ref b), (1, .ref x), (2, .ref y), (3, .ref qo), (4, .int 0)]) hx hb dL_law_1062 hl (by decide) rfl (fun ls hl => ?_)
  refine lv_aload_n hx hb dL_law_1064 rfl (lv_at hl 4 rfl) ?_
  have hPc := hP.sub (ws' := [(y, .inr (16, g9))]) [4] rfl
  refine va_calli (va_runV (As := []) (rest := []) ⟨hx, hb, hml, hown, hts⟩ (kf_X13_thrownN l dC dI cI cB cJ cZ y g9 1 hg0) (cwV 0 hts gw_X13_thrown rfl rfl rfl (by decide +kernel) ⟨(Nat.le_of_ble_eq_true rfl), (Nat.le_of_ble_eq_true rfl)⟩) ⟨fun a U g mk q => by obtain ⟨q0, qP, qK⟩ := q; exact ⟨q0, qP, va_K.moved (u := U) (U := U.calling g mk a) (Vm.Alike.refl U.vm) qK⟩, va_recv hK hPc (ci := 16) (q0 := 0) rfl rfl, fun U hU hW => ⟨rfl, by rw [hU]; exact hPc, va_K.moved hW.alike hK⟩⟩ rfl rfl hl.1 rfl (lv_room (Nat.le_of_ble_eq_true rfl)) dL_law_1065 ⟨(Nat.le_of_ble_eq_true rfl), (Nat.le_of_ble_eq_true rfl)⟩) hS (fun q _ h => h.elim) (fun q h => h.elim) (fun r8 un t H1 locs ht hvm hw8 hB hz1 hk1 hS => ?_)
  obtain rfl : r8 = 1 := hw8
  have hP := hP.kept (fun k9 x9 h9 => hk1 x9.1 ((hP k9 x9 h9).lt) id)
  generalize H1 = H at hP hS ⊢
  refine lv_iload hx hb dL_law_1068 (lv_at hl 1 rfl) ?_
  refine lv_icmp_eq (tgt := 1075) hx hb dL_law_1070 (by decide) (fun _ => ?_) (fun c9 => absurd (rfl) c9)
  refine lv_iload hx hb dL_law_1075 (lv_at hl 1 rfl) ?_
  refine lv_if_ne (tgt := 1092) hx hb dL_law_1077 (by decide) (fun _ => ?_) (fun c9 => absurd c9 (by decide))
  refine lv_goto (tgt := 2616) hx hb dL_law_1092 (by decide) ?_
  exact lc_fin C0 hS (lv_sub hl [2, 6] rfl) (Nat.le_of_ble_eq_true rfl) (Nat.le_of_ble_eq_true rfl)
theorem dL_law_1095 : decode cL_law 1095 = .ok (.aload_n 1, 1) := by decide +kernel
theorem dL_law_1096 : decode cL_law 1096 = .ok (.aload_n 0, 1) := by decide +kernel
theorem dL_law_1097 : decode cL_law 1097 = .ok (.iload 4, 2) := by decide +kernel
theorem dL_law_1099 : decode cL_law 1099 = .ok (.iconst 1, 1) := by decide +kernel
theorem dL_law_1100 : decode cL_law 1100 = .ok (.iadd, 1) := by decide +kernel
theorem dL_law_1101 : decode cL_law 1101 = .ok (.iaload, 1) := by decide +kernel
theorem dL_law_1102 : decode cL_law 1102 = .ok (.aload_n 0, 1) := by decide +kernel
theorem dL_law_1103 : decode cL_law 1103 = .ok (.iload 4, 2) := by decide +kernel
theorem dL_law_1105 : decode cL_law 1105 = .ok (.iconst 2, 1) := by decide +kernel
theorem dL_law_1106 : decode cL_law 1106 = .ok (.iadd, 1) := by decide +kernel
theorem dL_law_1107 : decode cL_law 1107 = .ok (.iaload, 1) := by decide +kernel
theorem dL_law_1108 : decode cL_law 1108 = .ok (.aload_n 0, 1) := by decide +kernel
theorem dL_law_1109 : decode cL_law 1109 = .ok (.iload 4, 2) := by decide +kernel
theorem dL_law_1111 : decode cL_law 1111 = .ok (.iconst 3, 1) := by decide +kernel
theorem dL_law_1112 : decode cL_law 1112 = .ok (.iadd, 1) := by decide +kernel
theorem dL_law_1113 : decode cL_law 1113 = .ok (.iaload, 1) := by decide +kernel
theorem dL_law_1114 : decode cL_law 1114 = .ok (.aload_n 0, 1) := by decide +kernel
theorem dL_law_1115 : decode cL_law 1115 = .ok (.iload 4, 2) := by decide +kernel
theorem dL_law_1117 : decode cL_law 1117 = .ok (.iconst 4, 1) := by decide +kernel
theorem dL_law_1118 : decode cL_law 1118 = .ok (.iadd, 1) := by decide +kernel
theorem dL_law_1119 : decode cL_law 1119 = .ok (.iaload, 1) := by decide +kernel
theorem dL_law_1120 : decode cL_law 1120 = .ok (.aload_n 3, 1) := by decide +kernel
theorem dL_law_1121 : decode cL_law 1121 = .ok (.invokestatic 192, 3) := by decide +kernel
theorem dL_law_1124 : decode cL_law 1124 = .ok (.istore 5, 2) := by decide +kernel
theorem dL_law_1126 : decode cL_law 1126 = .ok (.aload_n 2, 1) := by decide +kernel
theorem dL_law_1127 : decode cL_law 1127 = .ok (.aload_n 0, 1) := by decide +kernel
theorem dL_law_1128 : decode cL_law 1128 = .ok (.iload 4, 2) := by decide +kernel
theorem dL_law_1130 : decode cL_law 1130 = .ok (.iconst 1, 1) := by decide +kernel
theorem dL_law_1131 : decode cL_law 1131 = .ok (.iadd, 1) := by decide +kernel
theorem dL_law_1132 : decode cL_law 1132 = .ok (.iaload, 1) := by decide +kernel
theorem dL_law_1133 : decode cL_law 1133 = .ok (.aload_n 0, 1) := by decide +kernel
theorem dL_law_1134 : decode cL_law 1134 = .ok (.iload 4, 2) := by decide +kernel
theorem dL_law_1136 : decode cL_law 1136 = .ok (.iconst 2, 1) := by decide +kernel
theorem dL_law_1137 : decode cL_law 1137 = .ok (.iadd, 1) := by decide +kernel
theorem dL_law_1138 : decode cL_law 1138 = .ok (.iaload, 1) := by decide +kernel
theorem dL_law_1139 : decode cL_law 1139 = .ok (.aload_n 0, 1) := by decide +kernel
theorem dL_law_1140 : decode cL_law 1140 = .ok (.iload 4, 2) := by decide +kernel
theorem dL_law_1142 : decode cL_law 1142 = .ok (.iconst 3, 1) := by decide +kernel
theorem dL_law_1143 : decode cL_law 1143 = .ok (.iadd, 1) := by decide +kernel
theorem dL_law_1144 : decode cL_law 1144 = .ok (.iaload, 1) := by decide +kernel
theorem dL_law_1145 : decode cL_law 1145 = .ok (.aload_n 0, 1) := by decide +kernel
theorem dL_law_1146 : decode cL_law 1146 = .ok (.iload 4, 2) := by decide +kernel
theorem dL_law_1148 : decode cL_law 1148 = .ok (.iconst 4, 1) := by decide +kernel
theorem dL_law_1149 : decode cL_law 1149 = .ok (.iadd, 1) := by decide +kernel
theorem dL_law_1150 : decode cL_law 1150 = .ok (.iaload, 1) := by decide +kernel
theorem dL_law_1151 : decode cL_law 1151 = .ok (.invokevirtual 195, 3) := by decide +kernel
theorem dL_law_1154 : decode cL_law 1154 = .ok (.istore 6, 2) := by decide +kernel
theorem dL_law_1156 : decode cL_law 1156 = .ok (.aload_n 2, 1) := by decide +kernel
theorem dL_law_1157 : decode cL_law 1157 = .ok (.invokevirtual 137, 3) := by decide +kernel
theorem dL_law_1160 : decode cL_law 1160 = .ok (.iload 5, 2) := by decide +kernel
theorem dL_law_1162 : decode cL_law 1162 = .ok (.if_icmp .eq 5, 3) := by decide +kernel
theorem dL_law_1165 : decode cL_law 1165 = .ok (.iconst 0, 1) := by decide +kernel
theorem dL_law_1166 : decode cL_law 1166 = .ok (.ireturn, 1) := by decide +kernel
theorem dL_law_1167 : decode cL_law 1167 = .ok (.iload 5, 2) := by decide +kernel
theorem dL_law_1169 : decode cL_law 1169 = .ok (.ifCond .ne 15, 3) := by decide +kernel
theorem dL_law_1172 : decode cL_law 1172 = .ok (.aload_n 3, 1) := by decide +kernel
theorem dL_law_1173 : decode cL_law 1173 = .ok (.iconst 0, 1) := by decide +kernel
theorem dL_law_1174 : decode cL_law 1174 = .ok (.laload, 1) := by decide +kernel
theorem dL_law_1175 : decode cL_law 1175 = .ok (.iload 6, 2) := by decide +kernel
theorem dL_law_1177 : decode cL_law 1177 = .ok (.i2l, 1) := by decide +kernel
theorem dL_law_1178 : decode cL_law 1178 = .ok (.lcmp, 1) := by decide +kernel
theorem dL_law_1179 : decode cL_law 1179 = .ok (.ifCond .eq 5, 3) := by decide +kernel
theorem dL_law_1182 : decode cL_law 1182 = .ok (.iconst 0, 1) := by decide +kernel
theorem dL_law_1183 : decode cL_law 1183 = .ok (.ireturn, 1) := by decide +kernel
theorem dL_law_1184 : decode cL_law 1184 = .ok (.goto 1432, 3) := by decide +kernel
set_option maxHeartbeats 4000000 in
set_option maxRecDepth 100000 in
theorem lc_join {p : Program} {l : Launch} {e : Env} {s : State} {m : MethodId} {below : List Frame} {meth : Method} {c : Code} {b : Nat} {xs : Nat → Int32} {dC : Nat → ClassId} {dI : Nat → Nat → Nat} {cI cB cJ cZ : ClassId} {sa : Nat → Nat} (C0 : lw_At p s m meth c b 6 xs) (hG : ow_LG l s dC dI cI cB cJ cZ sa) {x y qo : Nat} {u : Nat → Nat} {v : List Value × (Nat → Nat)} (hv : kn_X13_init v) {H : Heap} {locs : List Loc} {ls : Array Slot} (hP : va_P (dC, dI) vwCl (wd_X11_init cI cB cJ x u ++ (wd_X13_init cI cB y v ++ [(qo, .inl (cJ, 1, .inr (.inl (fun _ => 0))))])) H) (hD : va_D (fun q : Nat => s.heap.size ≤ q) (wd_X11_init cI cB cJ x u ++ (wd_X13_init cI cB y v ++ [(qo, .inl (cJ, 1, .inr (.inl (fun _ => 0))))]))) (hS : va_S (fun q : Nat => s.heap.size ≤ q) s.heap H locs) (hl : lv_has ls 8 [(0, .ref b), (1, .ref x), (2, .ref y), (3, .ref qo), (4, .int 0)]) : W p l e room_1 s m #[Value.ref b] below meth c H locs 694 1334208 (lw_Z below #[Value.ref b] s) (F0 m 1095 ls []) := by
  obtain ⟨hx, hb, hr, hml, hown, hts, hX, hbl, hlocks, hgv⟩ := id C0
  have hown : s.vm.findClass RL = some m.cls := hown
  have hA : ∀ q : Nat, s.heap.size ≤ q → (fun q : Nat => s.heap.size ≤ q) q := fun _ h => h
  have hbA : ¬ (fun q : Nat => s.heap.size ≤ q) b := Nat.not_le.mpr hbl
  have hK := hG.2.1
  have hP := hP.sub (ws' := [(x, .inr (14, [.ref (u 0), .ref (u 1), .ref (u 2), .ref (u 3), .ref (u 4), .ref (u 5), .ref (u 6), .ref (u 7), .ref (u 8), .ref (u 9), .ref (u 10), .ref (u 11), .ref (u 12), .ref (u 13), .ref (u 14), .ref (u 15), .ref (u 16), .ref (u 17), .ref (u 18)])), ((u 0), .inr (6, [.ref (u 19), .ref (u 20), .ref (u 21), .ref (u 22), .int 0])), ((u 20), .inl (cB, 40, .inl (fun _ => 0))), (y, .inr (16, v.1)), ((v.2 1), .inl (cI, 1280, .inl (fun _ => 0))), (qo, .inl (cJ, 1, .inr (.inl (fun _ => 0))))]) [0, 1, 3, 60, 62, 71] rfl
  have hD := hD.sub (ws' := [(x, .inr (14, [.ref (u 0), .ref (u 1), .ref (u 2), .ref (u 3), .ref (u 4), .ref (u 5), .ref (u 6), .ref (u 7), .ref (u 8), .ref (u 9), .ref (u 10), .ref (u 11), .ref (u 12), .ref (u 13), .ref (u 14), .ref (u 15), .ref (u 16), .ref (u 17), .ref (u 18)])), ((u 0), .inr (6, [.ref (u 19), .ref (u 20), .ref (u 21), .ref (u 22), .int 0])), ((u 20), .inl (cB, 40, .inl (fun _ => 0))), (y, .inr (16, v.1)), ((v.2 1), .inl (cI, 1280, .inl (fun _ => 0))), (qo, .inl (cJ, 1, .inr (.inl (fun _ => 0))))]) [0, 1, 3, 60, 62, 71] (by decide) rfl
  refine lv_aload_n hx hb dL_law_1095 rfl (lv_at hl 1 rfl) ?_
  refine lv_aload_n hx hb dL_law_1096 rfl (lv_at hl 0 rfl) ?_
  refine lv_iload hx hb dL_law_1097 (lv_at hl 4 rfl) ?_
  refine lv_iconst (v := 1) hx hb dL_law_1099 (by decide) ?_
  refine lv_iadd hx hb dL_law_1100 ?_
  refine ow_topi (y := 1) (by decide) ?_
  refine va_sld hx hb hX hbl hbA hS (vp_in_nI (n := 1) (N := 6) (by decide) (by decide)) dL_law_1101 ?_
  refine ow_topi (y := xs 1) (congrArg xs (by decide)) ?_
  refine lv_aload_n hx hb dL_law_1102 rfl (lv_at hl 0 rfl) ?_
  refine lv_iload hx hb dL_law_1103 (lv_at hl 4 rfl) ?_
  refine lv_iconst (v := 2) hx hb dL_law_1105 (by decide) ?_
  refine lv_iadd hx hb dL_law_1106 ?_
  refine ow_topi (y := 2) (by decide) ?_
  refine va_sld hx hb hX hbl hbA hS (vp_in_nI (n := 2) (N := 6) (by decide) (by decide)) dL_law_1107 ?_
  refine ow_topi (y := xs 2) (congrArg xs (by decide)) ?_
  refine lv_aload_n hx hb dL_law_1108 rfl (lv_at hl 0 rfl) ?_
  refine lv_iload hx hb dL_law_1109 (lv_at hl 4 rfl) ?_
  refine lv_iconst (v := 3) hx hb dL_law_1111 (by decide) ?_
  refine lv_iadd hx hb dL_law_1112 ?_
  refine ow_topi (y := 3) (by decide) ?_
  refine va_sld hx hb hX hbl hbA hS (vp_in_nI (n := 3) (N := 6) (by decide) (by decide)) dL_law_1113 ?_
  refine ow_topi (y := xs 3) (congrArg xs (by decide)) ?_
  refine lv_aload_n hx hb dL_law_1114 rfl (lv_at hl 0 rfl) ?_
  refine lv_iload hx hb dL_law_1115 (lv_at hl 4 rfl) ?_
  refine lv_iconst (v := 4) hx hb dL_law_1117 (by decide) ?_
  refine lv_iadd hx hb dL_law_1118 ?_
  refine ow_topi (y := 4) (by decide) ?_
  refine va_sld hx hb hX hbl hbA hS (vp_in_nI (n := 4) (N := 6) (by decide) (by decide)) dL_law_1119 ?_
  refine ow_topi (y := xs 4) (congrArg xs (by decide)) ?_
  refine lv_aload_n hx hb dL_law_1120 rfl (lv_at hl 3 rfl) ?_
  have hPc := hP.sub (ws' := [(x, .inr (14, [.ref (u 0), .ref (u 1), .ref (u 2), .ref (u 3), .ref (u 4), .ref (u 5), .ref (u 6), .ref (u 7), .ref (u 8), .ref (u 9), .ref (u 10), .ref (u 11), .ref (u 12), .ref (u 13), .ref (u 14), .ref (u 15), .ref (u 16), .ref (u 17), .ref (u 18)])), ((u 0), .inr (6, [.ref (u 19), .ref (u 20), .ref (u 21), .ref (u 22), .int 0])), ((u 20), .inl (cB, 40, .inl (fun _ => 0)))]) [0, 1, 2] rfl
  refine vx_calli (vx_runSX (As := [.ref x, .int (xs 1), .int (xs 2), .int (xs 3), .int (xs 4), .ref qo]) (rest := []) ⟨hx, hb, hml, hown, hts⟩ (kf_L_join l dC dI cI cB cJ cZ hG.1 x (sa 0) qo u (xs 1) (xs 2) (xs 3) (xs 4)) (vx_cwSW 6 hts gw_L_join rfl rfl rfl (by decide +kernel) ⟨(Nat.le_of_ble_eq_true rfl), (Nat.le_of_ble_eq_true rfl)⟩) ⟨fun a U g mk q => by obtain ⟨q0, qP, qK, qT⟩ := q; exact ⟨q0, qP, va_K.moved (u := U) (U := U.calling g mk a) (Vm.Alike.refl U.vm) qK, qT.same rfl rfl⟩, fun U hU hW => ⟨rfl, by rw [hU]; exact hPc, va_K.moved hW.alike hK, (hG.2.2.2.1).to hS hW hU (fun q h => h.elim)⟩⟩ rfl rfl hl.1 rfl (lv_room (Nat.le_of_ble_eq_true rfl)) dL_law_1121 ⟨(Nat.le_of_ble_eq_true rfl), (Nat.le_of_ble_eq_true rfl)⟩) hS (fun q _ h => h.elim) (fun q h => h.elim) (fun q _ h => h.elim) (fun E ce q9 u9 t H1 locs1 ht hvm hp hB hz hk hS hce hcv hcl => hp.elim) (fun r7 g7 t H1 locs ht hvm hw hB hz1 hk1 hS => ?_)
  obtain rfl : r7 = 1 := hw
  have hP := hP.kept (fun k9 x9 h9 => hk1 x9.1 ((hP k9 x9 h9).lt) id)
  generalize H1 = H at hP hS ⊢
  refine W.widen (k := 695) (n := 1334214) (Nat.le_of_ble_eq_true rfl) (Nat.le_of_ble_eq_true rfl) ?_
  refine lv_istore (lv' := [(5, .int 1), (0, .ref b), (1, .ref x), (2, .ref y), (3, .ref qo), (4, .int 0)]) hx hb dL_law_1124 hl (by decide) rfl (fun ls hl => ?_)
  refine lv_aload_n hx hb dL_law_1126 rfl (lv_at hl 3 rfl) ?_
  refine lv_aload_n hx hb dL_law_1127 rfl (lv_at hl 1 rfl) ?_
  refine lv_iload hx hb dL_law_1128 (lv_at hl 5 rfl) ?_
  refine lv_iconst (v := 1) hx hb dL_law_1130 (by decide) ?_
  refine lv_iadd hx hb dL_law_1131 ?_
  refine ow_topi (y := 1) (by decide) ?_
  refine va_sld hx hb hX hbl hbA hS (vp_in_nI (n := 1) (N := 6) (by decide) (by decide)) dL_law_1132 ?_
  refine ow_topi (y := xs 1) (congrArg xs (by decide)) ?_
  refine lv_aload_n hx hb dL_law_1133 rfl (lv_at hl 1 rfl) ?_
  refine lv_iload hx hb dL_law_1134 (lv_at hl 5 rfl) ?_
  refine lv_iconst (v := 2) hx hb dL_law_1136 (by decide) ?_
  refine lv_iadd hx hb dL_law_1137 ?_
  refine ow_topi (y := 2) (by decide) ?_
  refine va_sld hx hb hX hbl hbA hS (vp_in_nI (n := 2) (N := 6) (by decide) (by decide)) dL_law_1138 ?_
  refine ow_topi (y := xs 2) (congrArg xs (by decide)) ?_
  refine lv_aload_n hx hb dL_law_1139 rfl (lv_at hl 1 rfl) ?_
  refine lv_iload hx hb dL_law_1140 (lv_at hl 5 rfl) ?_
  refine lv_iconst (v := 3) hx hb dL_law_1142 (by decide) ?_
  refine lv_iadd hx hb dL_law_1143 ?_
  refine ow_topi (y := 3) (by decide) ?_
  refine va_sld hx hb hX hbl hbA hS (vp_in_nI (n := 3) (N := 6) (by decide) (by decide)) dL_law_1144 ?_
  refine ow_topi (y := xs 3) (congrArg xs (by decide)) ?_
  refine lv_aload_n hx hb dL_law_1145 rfl (lv_at hl 1 rfl) ?_
  refine lv_iload hx hb dL_law_1146 (lv_at hl 5 rfl) ?_
  refine lv_iconst (v := 4) hx hb dL_law_1148 (by decide) ?_
  refine lv_iadd hx hb dL_law_1149 ?_
  refine ow_topi (y := 4) (by decide) ?_
  refine va_sld hx hb hX hbl hbA hS (vp_in_nI (n := 4) (N := 6) (by decide) (by decide)) dL_law_1150 ?_
  refine ow_topi (y := xs 4) (congrArg xs (by decide)) ?_
  have hPc := hP.sub (ws' := [(y, .inr (16, v.1)), ((v.2 1), .inl (cI, 1280, .inl (fun _ => 0)))]) [3, 4] rfl
  have hDc := hD.sub (ws' := [(y, .inr (16, v.1)), ((v.2 1), .inl (cI, 1280, .inl (fun _ => 0)))]) [3, 4] (by decide) rfl
  have hFc := va_free (wc := [(y, .inr (16, v.1)), ((v.2 1), .inl (cI, 1280, .inl (fun _ => 0)))]) hD hS hA [3, 4] rfl
  refine va_calli (va_runV (As := [.int (xs 1), .int (xs 2), .int (xs 3), .int (xs 4)]) (rest := []) ⟨hx, hb, hml, hown, hts⟩ (kf_X13_join l dC dI cI cB cJ cZ y (v.2 1) H.size v.1 hv.1 (hv.2.at 20 rfl) (xs 1) (xs 2) (xs 3) (xs 4)) (cwV 4 hts gw_X13_join rfl rfl rfl (by decide +kernel) ⟨(Nat.le_of_ble_eq_true rfl), (Nat.le_of_ble_eq_true rfl)⟩) ⟨fun a U g mk q => by obtain ⟨q0, q1, qP, qK, qD⟩ := q; exact ⟨q0, q1, qP, va_K.moved (u := U) (U := U.calling g mk a) (Vm.Alike.refl U.vm) qK, qD⟩, va_recv hK hPc (ci := 16) (q0 := 0) rfl rfl, fun U hU hW => ⟨rfl, by rw [hU], by rw [hU]; exact hPc, va_K.moved hW.alike hK, hDc.weaken (fun _ _ _ _ => trivial)⟩⟩ rfl rfl hl.1 rfl (lv_room (Nat.le_of_ble_eq_true rfl)) dL_law_1151 ⟨(Nat.le_of_ble_eq_true rfl), (Nat.le_of_ble_eq_true rfl)⟩) hS (fun q _ h => hFc q h) hFc (fun r9 g9 t H1 locs ht hvm hw hB hz1 hk1 hS => ?_)
  obtain ⟨hP1, hD1⟩ := hB
  rw [ht] at hP1
  obtain ⟨hP, hD⟩ := va_join (wr := [(x, .inr (14, [.ref (u 0), .ref (u 1), .ref (u 2), .ref (u 3), .ref (u 4), .ref (u 5), .ref (u 6), .ref (u 7), .ref (u 8), .ref (u 9), .ref (u 10), .ref (u 11), .ref (u 12), .ref (u 13), .ref (u 14), .ref (u 15), .ref (u 16), .ref (u 17), .ref (u 18)])), ((u 0), .inr (6, [.ref (u 19), .ref (u 20), .ref (u 21), .ref (u 22), .int 0])), ((u 20), .inl (cB, 40, .inl (fun _ => 0))), (qo, .inl (cJ, 1, .inr (.inl (fun _ => 0))))]) (w1 := [(y, .inr (16, g9))]) hP hD [3, 4] [0, 1, 2, 5] rfl rfl (by decide) (by decide) hk1 hFc hP1 hD1
  generalize H1 = H at hP hS ⊢
  have hP : va_P (dC, dI) vwCl [(x, .inr (14, [.ref (u 0), .ref (u 1), .ref (u 2), .ref (u 3), .ref (u 4), .ref (u 5), .ref (u 6), .ref (u 7), .ref (u 8), .ref (u 9), .ref (u 10), .ref (u 11), .ref (u 12), .ref (u 13), .ref (u 14), .ref (u 15), .ref (u 16), .ref (u 17), .ref (u 18)])), ((u 0), .inr (6, [.ref (u 19), .ref (u 20), .ref (u 21), .ref (u 22), .int 0])), ((u 20), .inl (cB, 40, .inl (fun _ => 0))), (qo, .inl (cJ, 1, .inr (.inl (fun _ => 0)))), (y, .inr (16, g9))] H := hP
  have hD : va_D (fun q : Nat => s.heap.size ≤ q) [(x, .inr (14, [.ref (u 0), .ref (u 1), .ref (u 2), .ref (u 3), .ref (u 4), .ref (u 5), .ref (u 6), .ref (u 7), .ref (u 8), .ref (u 9), .ref (u 10), .ref (u 11), .ref (u 12), .ref (u 13), .ref (u 14), .ref (u 15), .ref (u 16), .ref (u 17), .ref (u 18)])), ((u 0), .inr (6, [.ref (u 19), .ref (u 20), .ref (u 21), .ref (u 22), .int 0])), ((u 20), .inl (cB, 40, .inl (fun _ => 0))), (qo, .inl (cJ, 1, .inr (.inl (fun _ => 0)))), (y, .inr (16, g9))] := hD
  obtain ⟨hr9, hg0⟩ := hw
  subst hr9
  refine lv_istore (lv' := [(6, .int 0), (5, .int 1), (0, .ref b), (1, .ref x), (2, .ref y), (3, .ref qo), (4, .int 0)]) hx hb dL_law_1154 hl (by decide) rfl (fun ls hl => ?_)
  refine lv_aload_n hx hb dL_law_1156 rfl (lv_at hl 4 rfl) ?_
  have hPc := hP.sub (ws' := [(y, .inr (16, g9))]) [4] rfl
  refine va_calli (va_runV (As := []) (rest := []) ⟨hx, hb, hml, hown, hts⟩ (kf_X13_thrownN l dC dI cI cB cJ cZ y g9 1 hg0) (cwV 0 hts gw_X13_thrown rfl rfl rfl (by decide +kernel) ⟨(Nat.le_of_ble_eq_true rfl), (Nat.le_of_ble_eq_true rfl)⟩) ⟨fun a U g mk q => by obtain ⟨q0, qP, qK⟩ := q; exact ⟨q0, qP, va_K.moved (u := U) (U := U.calling g mk a) (Vm.Alike.refl U.vm) qK⟩, va_recv hK hPc (ci := 16) (q0 := 0) rfl rfl, fun U hU hW => ⟨rfl, by rw [hU]; exact hPc, va_K.moved hW.alike hK⟩⟩ rfl rfl hl.1 rfl (lv_room (Nat.le_of_ble_eq_true rfl)) dL_law_1157 ⟨(Nat.le_of_ble_eq_true rfl), (Nat.le_of_ble_eq_true rfl)⟩) hS (fun q _ h => h.elim) (fun q h => h.elim) (fun r8 un t H1 locs ht hvm hw8 hB hz1 hk1 hS => ?_)
  obtain rfl : r8 = 1 := hw8
  have hP := hP.kept (fun k9 x9 h9 => hk1 x9.1 ((hP k9 x9 h9).lt) id)
  generalize H1 = H at hP hS ⊢
  refine lv_iload hx hb dL_law_1160 (lv_at hl 1 rfl) ?_
  refine lv_icmp_eq (tgt := 1167) hx hb dL_law_1162 (by decide) (fun _ => ?_) (fun c9 => absurd (rfl) c9)
  refine lv_iload hx hb dL_law_1167 (lv_at hl 1 rfl) ?_
  refine lv_if_ne (tgt := 1184) hx hb dL_law_1169 (by decide) (fun _ => ?_) (fun c9 => absurd c9 (by decide))
  refine lv_goto (tgt := 2616) hx hb dL_law_1184 (by decide) ?_
  exact lc_fin C0 hS (lv_sub hl [2, 6] rfl) (Nat.le_of_ble_eq_true rfl) (Nat.le_of_ble_eq_true rfl)
theorem dL_law_1187 : decode cL_law 1187 = .ok (.aload_n 1, 1) := by decide +kernel
theorem dL_law_1188 : decode cL_law 1188 = .ok (.aload_n 0, 1) := by decide +kernel
theorem dL_law_1189 : decode cL_law 1189 = .ok (.iload 4, 2) := by decide +kernel
theorem dL_law_1191 : decode cL_law 1191 = .ok (.iconst 1, 1) := by decide +kernel
theorem dL_law_1192 : decode cL_law 1192 = .ok (.iadd, 1) := by decide +kernel
theorem dL_law_1193 : decode cL_law 1193 = .ok (.iaload, 1) := by decide +kernel
theorem dL_law_1194 : decode cL_law 1194 = .ok (.aload_n 0, 1) := by decide +kernel
theorem dL_law_1195 : decode cL_law 1195 = .ok (.iload 4, 2) := by decide +kernel
theorem dL_law_1197 : decode cL_law 1197 = .ok (.iconst 2, 1) := by decide +kernel
theorem dL_law_1198 : decode cL_law 1198 = .ok (.iadd, 1) := by decide +kernel
theorem dL_law_1199 : decode cL_law 1199 = .ok (.iaload, 1) := by decide +kernel
theorem dL_law_1200 : decode cL_law 1200 = .ok (.aload_n 3, 1) := by decide +kernel
theorem dL_law_1201 : decode cL_law 1201 = .ok (.invokestatic 196, 3) := by decide +kernel
theorem dL_law_1204 : decode cL_law 1204 = .ok (.istore 5, 2) := by decide +kernel
theorem dL_law_1206 : decode cL_law 1206 = .ok (.aload_n 2, 1) := by decide +kernel
theorem dL_law_1207 : decode cL_law 1207 = .ok (.aload_n 0, 1) := by decide +kernel
theorem dL_law_1208 : decode cL_law 1208 = .ok (.iload 4, 2) := by decide +kernel
theorem dL_law_1210 : decode cL_law 1210 = .ok (.iconst 1, 1) := by decide +kernel
theorem dL_law_1211 : decode cL_law 1211 = .ok (.iadd, 1) := by decide +kernel
theorem dL_law_1212 : decode cL_law 1212 = .ok (.iaload, 1) := by decide +kernel
theorem dL_law_1213 : decode cL_law 1213 = .ok (.aload_n 0, 1) := by decide +kernel
theorem dL_law_1214 : decode cL_law 1214 = .ok (.iload 4, 2) := by decide +kernel
theorem dL_law_1216 : decode cL_law 1216 = .ok (.iconst 2, 1) := by decide +kernel
theorem dL_law_1217 : decode cL_law 1217 = .ok (.iadd, 1) := by decide +kernel
theorem dL_law_1218 : decode cL_law 1218 = .ok (.iaload, 1) := by decide +kernel
theorem dL_law_1219 : decode cL_law 1219 = .ok (.invokevirtual 198, 3) := by decide +kernel
theorem dL_law_1222 : decode cL_law 1222 = .ok (.istore 6, 2) := by decide +kernel
theorem dL_law_1224 : decode cL_law 1224 = .ok (.aload_n 2, 1) := by decide +kernel
theorem dL_law_1225 : decode cL_law 1225 = .ok (.invokevirtual 137, 3) := by decide +kernel
theorem dL_law_1228 : decode cL_law 1228 = .ok (.iload 5, 2) := by decide +kernel
theorem dL_law_1230 : decode cL_law 1230 = .ok (.if_icmp .eq 5, 3) := by decide +kernel
theorem dL_law_1233 : decode cL_law 1233 = .ok (.iconst 0, 1) := by decide +kernel
theorem dL_law_1234 : decode cL_law 1234 = .ok (.ireturn, 1) := by decide +kernel
theorem dL_law_1235 : decode cL_law 1235 = .ok (.iload 5, 2) := by decide +kernel
theorem dL_law_1237 : decode cL_law 1237 = .ok (.ifCond .ne 15, 3) := by decide +kernel
theorem dL_law_1240 : decode cL_law 1240 = .ok (.aload_n 3, 1) := by decide +kernel
theorem dL_law_1241 : decode cL_law 1241 = .ok (.iconst 0, 1) := by decide +kernel
theorem dL_law_1242 : decode cL_law 1242 = .ok (.laload, 1) := by decide +kernel
theorem dL_law_1243 : decode cL_law 1243 = .ok (.iload 6, 2) := by decide +kernel
theorem dL_law_1245 : decode cL_law 1245 = .ok (.i2l, 1) := by decide +kernel
theorem dL_law_1246 : decode cL_law 1246 = .ok (.lcmp, 1) := by decide +kernel
theorem dL_law_1247 : decode cL_law 1247 = .ok (.ifCond .eq 5, 3) := by decide +kernel
theorem dL_law_1250 : decode cL_law 1250 = .ok (.iconst 0, 1) := by decide +kernel
theorem dL_law_1251 : decode cL_law 1251 = .ok (.ireturn, 1) := by decide +kernel
theorem dL_law_1252 : decode cL_law 1252 = .ok (.goto 1364, 3) := by decide +kernel
set_option maxHeartbeats 4000000 in
set_option maxRecDepth 100000 in
theorem lc_moves {p : Program} {l : Launch} {e : Env} {s : State} {m : MethodId} {below : List Frame} {meth : Method} {c : Code} {b : Nat} {xs : Nat → Int32} {dC : Nat → ClassId} {dI : Nat → Nat → Nat} {cI cB cJ cZ : ClassId} {sa : Nat → Nat} (C0 : lw_At p s m meth c b 6 xs) (hG : ow_LG l s dC dI cI cB cJ cZ sa) {x y qo : Nat} {u : Nat → Nat} {v : List Value × (Nat → Nat)} (hv : kn_X13_init v) {H : Heap} {locs : List Loc} {ls : Array Slot} (hP : va_P (dC, dI) vwCl (wd_X11_init cI cB cJ x u ++ (wd_X13_init cI cB y v ++ [(qo, .inl (cJ, 1, .inr (.inl (fun _ => 0))))])) H) (hD : va_D (fun q : Nat => s.heap.size ≤ q) (wd_X11_init cI cB cJ x u ++ (wd_X13_init cI cB y v ++ [(qo, .inl (cJ, 1, .inr (.inl (fun _ => 0))))]))) (hS : va_S (fun q : Nat => s.heap.size ≤ q) s.heap H locs) (hl : lv_has ls 8 [(0, .ref b), (1, .ref x), (2, .ref y), (3, .ref qo), (4, .int 0)]) : W p l e room_1 s m #[Value.ref b] below meth c H locs 694 1334208 (lw_Z below #[Value.ref b] s) (F0 m 1187 ls []) := by
  obtain ⟨hx, hb, hr, hml, hown, hts, hX, hbl, hlocks, hgv⟩ := id C0
  have hown : s.vm.findClass RL = some m.cls := hown
  have hA : ∀ q : Nat, s.heap.size ≤ q → (fun q : Nat => s.heap.size ≤ q) q := fun _ h => h
  have hbA : ¬ (fun q : Nat => s.heap.size ≤ q) b := Nat.not_le.mpr hbl
  have hK := hG.2.1
  have hP := hP.sub (ws' := [(x, .inr (14, [.ref (u 0), .ref (u 1), .ref (u 2), .ref (u 3), .ref (u 4), .ref (u 5), .ref (u 6), .ref (u 7), .ref (u 8), .ref (u 9), .ref (u 10), .ref (u 11), .ref (u 12), .ref (u 13), .ref (u 14), .ref (u 15), .ref (u 16), .ref (u 17), .ref (u 18)])), ((u 0), .inr (6, [.ref (u 19), .ref (u 20), .ref (u 21), .ref (u 22), .int 0])), ((u 20), .inl (cB, 40, .inl (fun _ => 0))), (y, .inr (16, v.1)), ((v.2 1), .inl (cI, 1280, .inl (fun _ => 0))), (qo, .inl (cJ, 1, .inr (.inl (fun _ => 0))))]) [0, 1, 3, 60, 62, 71] rfl
  have hD := hD.sub (ws' := [(x, .inr (14, [.ref (u 0), .ref (u 1), .ref (u 2), .ref (u 3), .ref (u 4), .ref (u 5), .ref (u 6), .ref (u 7), .ref (u 8), .ref (u 9), .ref (u 10), .ref (u 11), .ref (u 12), .ref (u 13), .ref (u 14), .ref (u 15), .ref (u 16), .ref (u 17), .ref (u 18)])), ((u 0), .inr (6, [.ref (u 19), .ref (u 20), .ref (u 21), .ref (u 22), .int 0])), ((u 20), .inl (cB, 40, .inl (fun _ => 0))), (y, .inr (16, v.1)), ((v.2 1), .inl (cI, 1280, .inl (fun _ => 0))), (qo, .inl (cJ, 1, .inr (.inl (fun _ => 0))))]) [0, 1, 3, 60, 62, 71] (by decide) rfl
  refine lv_aload_n hx hb dL_law_1187 rfl (lv_at hl 1 rfl) ?_
  refine lv_aload_n hx hb dL_law_1188 rfl (lv_at hl 0 rfl) ?_
  refine lv_iload hx hb dL_law_1189 (lv_at hl 4 rfl) ?_
  refine lv_iconst (v := 1) hx hb dL_law_1191 (by decide) ?_
  refine lv_iadd hx hb dL_law_1192 ?_
  refine ow_topi (y := 1) (by decide) ?_
  refine va_sld hx hb hX hbl hbA hS (vp_in_nI (n := 1) (N := 6) (by decide) (by decide)) dL_law_1193 ?_
  refine ow_topi (y := xs 1) (congrArg xs (by decide)) ?_
  refine lv_aload_n hx hb dL_law_1194 rfl (lv_at hl 0 rfl) ?_
  refine lv_iload hx hb dL_law_1195 (lv_at hl 4 rfl) ?_
  refine lv_iconst (v := 2) hx hb dL_law_1197 (by decide) ?_
  refine lv_iadd hx hb dL_law_1198 ?_
  refine ow_topi (y := 2) (by decide) ?_
  refine va_sld hx hb hX hbl hbA hS (vp_in_nI (n := 2) (N := 6) (by decide) (by decide)) dL_law_1199 ?_
  refine ow_topi (y := xs 2) (congrArg xs (by decide)) ?_
  refine lv_aload_n hx hb dL_law_1200 rfl (lv_at hl 3 rfl) ?_
  have hPc := hP.sub (ws' := [(x, .inr (14, [.ref (u 0), .ref (u 1), .ref (u 2), .ref (u 3), .ref (u 4), .ref (u 5), .ref (u 6), .ref (u 7), .ref (u 8), .ref (u 9), .ref (u 10), .ref (u 11), .ref (u 12), .ref (u 13), .ref (u 14), .ref (u 15), .ref (u 16), .ref (u 17), .ref (u 18)])), ((u 0), .inr (6, [.ref (u 19), .ref (u 20), .ref (u 21), .ref (u 22), .int 0])), ((u 20), .inl (cB, 40, .inl (fun _ => 0)))]) [0, 1, 2] rfl
  refine vx_calli (vx_runSX (As := [.ref x, .int (xs 1), .int (xs 2), .ref qo]) (rest := []) ⟨hx, hb, hml, hown, hts⟩ (kf_L_moves l dC dI cI cB cJ cZ hG.1 x (sa 0) qo u (xs 1) (xs 2)) (vx_cwSW 4 hts gw_L_moves rfl rfl rfl (by decide +kernel) ⟨(Nat.le_of_ble_eq_true rfl), (Nat.le_of_ble_eq_true rfl)⟩) ⟨fun a U g mk q => by obtain ⟨q0, qP, qK, qT⟩ := q; exact ⟨q0, qP, va_K.moved (u := U) (U := U.calling g mk a) (Vm.Alike.refl U.vm) qK, qT.same rfl rfl⟩, fun U hU hW => ⟨rfl, by rw [hU]; exact hPc, va_K.moved hW.alike hK, (hG.2.2.2.1).to hS hW hU (fun q h => h.elim)⟩⟩ rfl rfl hl.1 rfl (lv_room (Nat.le_of_ble_eq_true rfl)) dL_law_1201 ⟨(Nat.le_of_ble_eq_true rfl), (Nat.le_of_ble_eq_true rfl)⟩) hS (fun q _ h => h.elim) (fun q h => h.elim) (fun q _ h => h.elim) (fun E ce q9 u9 t H1 locs1 ht hvm hp hB hz hk hS hce hcv hcl => hp.elim) (fun r7 g7 t H1 locs ht hvm hw hB hz1 hk1 hS => ?_)
  obtain rfl : r7 = 1 := hw
  have hP := hP.kept (fun k9 x9 h9 => hk1 x9.1 ((hP k9 x9 h9).lt) id)
  generalize H1 = H at hP hS ⊢
  refine W.widen (k := 695) (n := 1334214) (Nat.le_of_ble_eq_true rfl) (Nat.le_of_ble_eq_true rfl) ?_
  refine lv_istore (lv' := [(5, .int 1), (0, .ref b), (1, .ref x), (2, .ref y), (3, .ref qo), (4, .int 0)]) hx hb dL_law_1204 hl (by decide) rfl (fun ls hl => ?_)
  refine lv_aload_n hx hb dL_law_1206 rfl (lv_at hl 3 rfl) ?_
  refine lv_aload_n hx hb dL_law_1207 rfl (lv_at hl 1 rfl) ?_
  refine lv_iload hx hb dL_law_1208 (lv_at hl 5 rfl) ?_
  refine lv_iconst (v := 1) hx hb dL_law_1210 (by decide) ?_
  refine lv_iadd hx hb dL_law_1211 ?_
  refine ow_topi (y := 1) (by decide) ?_
  refine va_sld hx hb hX hbl hbA hS (vp_in_nI (n := 1) (N := 6) (by decide) (by decide)) dL_law_1212 ?_
  refine ow_topi (y := xs 1) (congrArg xs (by decide)) ?_
  refine lv_aload_n hx hb dL_law_1213 rfl (lv_at hl 1 rfl) ?_
  refine lv_iload hx hb dL_law_1214 (lv_at hl 5 rfl) ?_
  refine lv_iconst (v := 2) hx hb dL_law_1216 (by decide) ?_
  refine lv_iadd hx hb dL_law_1217 ?_
  refine ow_topi (y := 2) (by decide) ?_
  refine va_sld hx hb hX hbl hbA hS (vp_in_nI (n := 2) (N := 6) (by decide) (by decide)) dL_law_1218 ?_
  refine ow_topi (y := xs 2) (congrArg xs (by decide)) ?_
  have hPc := hP.sub (ws' := [(y, .inr (16, v.1)), ((v.2 1), .inl (cI, 1280, .inl (fun _ => 0)))]) [3, 4] rfl
  have hDc := hD.sub (ws' := [(y, .inr (16, v.1)), ((v.2 1), .inl (cI, 1280, .inl (fun _ => 0)))]) [3, 4] (by decide) rfl
  have hFc := va_free (wc := [(y, .inr (16, v.1)), ((v.2 1), .inl (cI, 1280, .inl (fun _ => 0)))]) hD hS hA [3, 4] rfl
  refine va_calli (va_runV (As := [.int (xs 1), .int (xs 2)]) (rest := []) ⟨hx, hb, hml, hown, hts⟩ (kf_X13_moves l dC dI cI cB cJ cZ y (v.2 1) H.size v.1 hv.1 (hv.2.at 20 rfl) (xs 1) (xs 2)) (cwV 2 hts gw_X13_moves rfl rfl rfl (by decide +kernel) ⟨(Nat.le_of_ble_eq_true rfl), (Nat.le_of_ble_eq_true rfl)⟩) ⟨fun a U g mk q => by obtain ⟨q0, q1, qP, qK, qD⟩ := q; exact ⟨q0, q1, qP, va_K.moved (u := U) (U := U.calling g mk a) (Vm.Alike.refl U.vm) qK, qD⟩, va_recv hK hPc (ci := 16) (q0 := 0) rfl rfl, fun U hU hW => ⟨rfl, by rw [hU], by rw [hU]; exact hPc, va_K.moved hW.alike hK, hDc.weaken (fun _ _ _ _ => trivial)⟩⟩ rfl rfl hl.1 rfl (lv_room (Nat.le_of_ble_eq_true rfl)) dL_law_1219 ⟨(Nat.le_of_ble_eq_true rfl), (Nat.le_of_ble_eq_true rfl)⟩) hS (fun q _ h => hFc q h) hFc (fun r9 g9 t H1 locs ht hvm hw hB hz1 hk1 hS => ?_)
  obtain ⟨hP1, hD1⟩ := hB
  rw [ht] at hP1
  obtain ⟨hP, hD⟩ := va_join (wr := [(x, .inr (14, [.ref (u 0), .ref (u 1), .ref (u 2), .ref (u 3), .ref (u 4), .ref (u 5), .ref (u 6), .ref (u 7), .ref (u 8), .ref (u 9), .ref (u 10), .ref (u 11), .ref (u 12), .ref (u 13), .ref (u 14), .ref (u 15), .ref (u 16), .ref (u 17), .ref (u 18)])), ((u 0), .inr (6, [.ref (u 19), .ref (u 20), .ref (u 21), .ref (u 22), .int 0])), ((u 20), .inl (cB, 40, .inl (fun _ => 0))), (qo, .inl (cJ, 1, .inr (.inl (fun _ => 0))))]) (w1 := [(y, .inr (16, g9))]) hP hD [3, 4] [0, 1, 2, 5] rfl rfl (by decide) (by decide) hk1 hFc hP1 hD1
  generalize H1 = H at hP hS ⊢
  have hP : va_P (dC, dI) vwCl [(x, .inr (14, [.ref (u 0), .ref (u 1), .ref (u 2), .ref (u 3), .ref (u 4), .ref (u 5), .ref (u 6), .ref (u 7), .ref (u 8), .ref (u 9), .ref (u 10), .ref (u 11), .ref (u 12), .ref (u 13), .ref (u 14), .ref (u 15), .ref (u 16), .ref (u 17), .ref (u 18)])), ((u 0), .inr (6, [.ref (u 19), .ref (u 20), .ref (u 21), .ref (u 22), .int 0])), ((u 20), .inl (cB, 40, .inl (fun _ => 0))), (qo, .inl (cJ, 1, .inr (.inl (fun _ => 0)))), (y, .inr (16, g9))] H := hP
  have hD : va_D (fun q : Nat => s.heap.size ≤ q) [(x, .inr (14, [.ref (u 0), .ref (u 1), .ref (u 2), .ref (u 3), .ref (u 4), .ref (u 5), .ref (u 6), .ref (u 7), .ref (u 8), .ref (u 9), .ref (u 10), .ref (u 11), .ref (u 12), .ref (u 13), .ref (u 14), .ref (u 15), .ref (u 16), .ref (u 17), .ref (u 18)])), ((u 0), .inr (6, [.ref (u 19), .ref (u 20), .ref (u 21), .ref (u 22), .int 0])), ((u 20), .inl (cB, 40, .inl (fun _ => 0))), (qo, .inl (cJ, 1, .inr (.inl (fun _ => 0)))), (y, .inr (16, g9))] := hD
  obtain ⟨hr9, hg0⟩ := hw
  subst hr9
  refine lv_istore (lv' := [(6, .int 0), (5, .int 1), (0, .ref b), (1, .ref x), (2, .ref y), (3, .ref qo), (4, .int 0)]) hx hb dL_law_1222 hl (by decide) rfl (fun ls hl => ?_)
  refine lv_aload_n hx hb dL_law_1224 rfl (lv_at hl 4 rfl) ?_
  have hPc := hP.sub (ws' := [(y, .inr (16, g9))]) [4] rfl
  refine va_calli (va_runV (As := []) (rest := []) ⟨hx, hb, hml, hown, hts⟩ (kf_X13_thrownN l dC dI cI cB cJ cZ y g9 1 hg0) (cwV 0 hts gw_X13_thrown rfl rfl rfl (by decide +kernel) ⟨(Nat.le_of_ble_eq_true rfl), (Nat.le_of_ble_eq_true rfl)⟩) ⟨fun a U g mk q => by obtain ⟨q0, qP, qK⟩ := q; exact ⟨q0, qP, va_K.moved (u := U) (U := U.calling g mk a) (Vm.Alike.refl U.vm) qK⟩, va_recv hK hPc (ci := 16) (q0 := 0) rfl rfl, fun U hU hW => ⟨rfl, by rw [hU]; exact hPc, va_K.moved hW.alike hK⟩⟩ rfl rfl hl.1 rfl (lv_room (Nat.le_of_ble_eq_true rfl)) dL_law_1225 ⟨(Nat.le_of_ble_eq_true rfl), (Nat.le_of_ble_eq_true rfl)⟩) hS (fun q _ h => h.elim) (fun q h => h.elim) (fun r8 un t H1 locs ht hvm hw8 hB hz1 hk1 hS => ?_)
  obtain rfl : r8 = 1 := hw8
  have hP := hP.kept (fun k9 x9 h9 => hk1 x9.1 ((hP k9 x9 h9).lt) id)
  generalize H1 = H at hP hS ⊢
  refine lv_iload hx hb dL_law_1228 (lv_at hl 1 rfl) ?_
  refine lv_icmp_eq (tgt := 1235) hx hb dL_law_1230 (by decide) (fun _ => ?_) (fun c9 => absurd (rfl) c9)
  refine lv_iload hx hb dL_law_1235 (lv_at hl 1 rfl) ?_
  refine lv_if_ne (tgt := 1252) hx hb dL_law_1237 (by decide) (fun _ => ?_) (fun c9 => absurd c9 (by decide))
  refine lv_goto (tgt := 2616) hx hb dL_law_1252 (by decide) ?_
  exact lc_fin C0 hS (lv_sub hl [2, 6] rfl) (Nat.le_of_ble_eq_true rfl) (Nat.le_of_ble_eq_true rfl)
theorem dL_law_1255 : decode cL_law 1255 = .ok (.aload_n 1, 1) := by decide +kernel
theorem dL_law_1256 : decode cL_law 1256 = .ok (.aload_n 0, 1) := by decide +kernel
theorem dL_law_1257 : decode cL_law 1257 = .ok (.iload 4, 2) := by decide +kernel
theorem dL_law_1259 : decode cL_law 1259 = .ok (.iconst 1, 1) := by decide +kernel
theorem dL_law_1260 : decode cL_law 1260 = .ok (.iadd, 1) := by decide +kernel
theorem dL_law_1261 : decode cL_law 1261 = .ok (.iaload, 1) := by decide +kernel
theorem dL_law_1262 : decode cL_law 1262 = .ok (.aload_n 3, 1) := by decide +kernel
theorem dL_law_1263 : decode cL_law 1263 = .ok (.invokestatic 199, 3) := by decide +kernel
theorem dL_law_1266 : decode cL_law 1266 = .ok (.istore 5, 2) := by decide +kernel
theorem dL_law_1268 : decode cL_law 1268 = .ok (.aload_n 2, 1) := by decide +kernel
theorem dL_law_1269 : decode cL_law 1269 = .ok (.aload_n 0, 1) := by decide +kernel
theorem dL_law_1270 : decode cL_law 1270 = .ok (.iload 4, 2) := by decide +kernel
theorem dL_law_1272 : decode cL_law 1272 = .ok (.iconst 1, 1) := by decide +kernel
theorem dL_law_1273 : decode cL_law 1273 = .ok (.iadd, 1) := by decide +kernel
theorem dL_law_1274 : decode cL_law 1274 = .ok (.iaload, 1) := by decide +kernel
theorem dL_law_1275 : decode cL_law 1275 = .ok (.invokevirtual 201, 3) := by decide +kernel
theorem dL_law_1278 : decode cL_law 1278 = .ok (.istore 6, 2) := by decide +kernel
theorem dL_law_1280 : decode cL_law 1280 = .ok (.aload_n 2, 1) := by decide +kernel
theorem dL_law_1281 : decode cL_law 1281 = .ok (.invokevirtual 137, 3) := by decide +kernel
theorem dL_law_1284 : decode cL_law 1284 = .ok (.iload 5, 2) := by decide +kernel
theorem dL_law_1286 : decode cL_law 1286 = .ok (.if_icmp .eq 5, 3) := by decide +kernel
theorem dL_law_1289 : decode cL_law 1289 = .ok (.iconst 0, 1) := by decide +kernel
theorem dL_law_1290 : decode cL_law 1290 = .ok (.ireturn, 1) := by decide +kernel
theorem dL_law_1291 : decode cL_law 1291 = .ok (.iload 5, 2) := by decide +kernel
theorem dL_law_1293 : decode cL_law 1293 = .ok (.ifCond .ne 15, 3) := by decide +kernel
theorem dL_law_1296 : decode cL_law 1296 = .ok (.aload_n 3, 1) := by decide +kernel
theorem dL_law_1297 : decode cL_law 1297 = .ok (.iconst 0, 1) := by decide +kernel
theorem dL_law_1298 : decode cL_law 1298 = .ok (.laload, 1) := by decide +kernel
theorem dL_law_1299 : decode cL_law 1299 = .ok (.iload 6, 2) := by decide +kernel
theorem dL_law_1301 : decode cL_law 1301 = .ok (.i2l, 1) := by decide +kernel
theorem dL_law_1302 : decode cL_law 1302 = .ok (.lcmp, 1) := by decide +kernel
theorem dL_law_1303 : decode cL_law 1303 = .ok (.ifCond .eq 5, 3) := by decide +kernel
theorem dL_law_1306 : decode cL_law 1306 = .ok (.iconst 0, 1) := by decide +kernel
theorem dL_law_1307 : decode cL_law 1307 = .ok (.ireturn, 1) := by decide +kernel
theorem dL_law_1308 : decode cL_law 1308 = .ok (.goto 1308, 3) := by decide +kernel
set_option maxHeartbeats 4000000 in
set_option maxRecDepth 100000 in
theorem lc_moved {p : Program} {l : Launch} {e : Env} {s : State} {m : MethodId} {below : List Frame} {meth : Method} {c : Code} {b : Nat} {xs : Nat → Int32} {dC : Nat → ClassId} {dI : Nat → Nat → Nat} {cI cB cJ cZ : ClassId} {sa : Nat → Nat} (C0 : lw_At p s m meth c b 6 xs) (hG : ow_LG l s dC dI cI cB cJ cZ sa) {x y qo : Nat} {u : Nat → Nat} {v : List Value × (Nat → Nat)} (hv : kn_X13_init v) {H : Heap} {locs : List Loc} {ls : Array Slot} (hP : va_P (dC, dI) vwCl (wd_X11_init cI cB cJ x u ++ (wd_X13_init cI cB y v ++ [(qo, .inl (cJ, 1, .inr (.inl (fun _ => 0))))])) H) (hD : va_D (fun q : Nat => s.heap.size ≤ q) (wd_X11_init cI cB cJ x u ++ (wd_X13_init cI cB y v ++ [(qo, .inl (cJ, 1, .inr (.inl (fun _ => 0))))]))) (hS : va_S (fun q : Nat => s.heap.size ≤ q) s.heap H locs) (hl : lv_has ls 8 [(0, .ref b), (1, .ref x), (2, .ref y), (3, .ref qo), (4, .int 0)]) : W p l e room_1 s m #[Value.ref b] below meth c H locs 694 1334208 (lw_Z below #[Value.ref b] s) (F0 m 1255 ls []) := by
  obtain ⟨hx, hb, hr, hml, hown, hts, hX, hbl, hlocks, hgv⟩ := id C0
  have hown : s.vm.findClass RL = some m.cls := hown
  have hA : ∀ q : Nat, s.heap.size ≤ q → (fun q : Nat => s.heap.size ≤ q) q := fun _ h => h
  have hbA : ¬ (fun q : Nat => s.heap.size ≤ q) b := Nat.not_le.mpr hbl
  have hK := hG.2.1
  have hP := hP.sub (ws' := [(x, .inr (14, [.ref (u 0), .ref (u 1), .ref (u 2), .ref (u 3), .ref (u 4), .ref (u 5), .ref (u 6), .ref (u 7), .ref (u 8), .ref (u 9), .ref (u 10), .ref (u 11), .ref (u 12), .ref (u 13), .ref (u 14), .ref (u 15), .ref (u 16), .ref (u 17), .ref (u 18)])), ((u 1), .inr (6, [.ref (u 23), .ref (u 24), .ref (u 25), .ref (u 26), .int 0])), (y, .inr (16, v.1)), (qo, .inl (cJ, 1, .inr (.inl (fun _ => 0))))]) [0, 6, 60, 71] rfl
  have hD := hD.sub (ws' := [(x, .inr (14, [.ref (u 0), .ref (u 1), .ref (u 2), .ref (u 3), .ref (u 4), .ref (u 5), .ref (u 6), .ref (u 7), .ref (u 8), .ref (u 9), .ref (u 10), .ref (u 11), .ref (u 12), .ref (u 13), .ref (u 14), .ref (u 15), .ref (u 16), .ref (u 17), .ref (u 18)])), ((u 1), .inr (6, [.ref (u 23), .ref (u 24), .ref (u 25), .ref (u 26), .int 0])), (y, .inr (16, v.1)), (qo, .inl (cJ, 1, .inr (.inl (fun _ => 0))))]) [0, 6, 60, 71] (by decide) rfl
  refine lv_aload_n hx hb dL_law_1255 rfl (lv_at hl 1 rfl) ?_
  refine lv_aload_n hx hb dL_law_1256 rfl (lv_at hl 0 rfl) ?_
  refine lv_iload hx hb dL_law_1257 (lv_at hl 4 rfl) ?_
  refine lv_iconst (v := 1) hx hb dL_law_1259 (by decide) ?_
  refine lv_iadd hx hb dL_law_1260 ?_
  refine ow_topi (y := 1) (by decide) ?_
  refine va_sld hx hb hX hbl hbA hS (vp_in_nI (n := 1) (N := 6) (by decide) (by decide)) dL_law_1261 ?_
  refine ow_topi (y := xs 1) (congrArg xs (by decide)) ?_
  refine lv_aload_n hx hb dL_law_1262 rfl (lv_at hl 3 rfl) ?_
  have hPc := hP.sub (ws' := [(x, .inr (14, [.ref (u 0), .ref (u 1), .ref (u 2), .ref (u 3), .ref (u 4), .ref (u 5), .ref (u 6), .ref (u 7), .ref (u 8), .ref (u 9), .ref (u 10), .ref (u 11), .ref (u 12), .ref (u 13), .ref (u 14), .ref (u 15), .ref (u 16), .ref (u 17), .ref (u 18)])), ((u 1), .inr (6, [.ref (u 23), .ref (u 24), .ref (u 25), .ref (u 26), .int 0]))]) [0, 1] rfl
  refine vx_calli (vx_runSX (As := [.ref x, .int (xs 1), .ref qo]) (rest := []) ⟨hx, hb, hml, hown, hts⟩ (kf_L_moved l dC dI cI cB cJ cZ hG.1 x (sa 2) qo u (xs 1)) (vx_cwSW 3 hts gw_L_moved rfl rfl rfl (by decide +kernel) ⟨(Nat.le_of_ble_eq_true rfl), (Nat.le_of_ble_eq_true rfl)⟩) ⟨fun a U g mk q => by obtain ⟨q0, qP, qK, qT⟩ := q; exact ⟨q0, qP, va_K.moved (u := U) (U := U.calling g mk a) (Vm.Alike.refl U.vm) qK, qT.same rfl rfl⟩, fun U hU hW => ⟨rfl, by rw [hU]; exact hPc, va_K.moved hW.alike hK, (hG.2.2.2.2.2.1).to hS hW hU (fun q h => h.elim)⟩⟩ rfl rfl hl.1 rfl (lv_room (Nat.le_of_ble_eq_true rfl)) dL_law_1263 ⟨(Nat.le_of_ble_eq_true rfl), (Nat.le_of_ble_eq_true rfl)⟩) hS (fun q _ h => h.elim) (fun q h => h.elim) (fun q _ h => h.elim) (fun E ce q9 u9 t H1 locs1 ht hvm hp hB hz hk hS hce hcv hcl => hp.elim) (fun r7 g7 t H1 locs ht hvm hw hB hz1 hk1 hS => ?_)
  obtain rfl : r7 = 1 := hw
  have hP := hP.kept (fun k9 x9 h9 => hk1 x9.1 ((hP k9 x9 h9).lt) id)
  generalize H1 = H at hP hS ⊢
  refine W.widen (k := 695) (n := 1334214) (Nat.le_of_ble_eq_true rfl) (Nat.le_of_ble_eq_true rfl) ?_
  refine lv_istore (lv' := [(5, .int 1), (0, .ref b), (1, .ref x), (2, .ref y), (3, .ref qo), (4, .int 0)]) hx hb dL_law_1266 hl (by decide) rfl (fun ls hl => ?_)
  refine lv_aload_n hx hb dL_law_1268 rfl (lv_at hl 3 rfl) ?_
  refine lv_aload_n hx hb dL_law_1269 rfl (lv_at hl 1 rfl) ?_
  refine lv_iload hx hb dL_law_1270 (lv_at hl 5 rfl) ?_
  refine lv_iconst (v := 1) hx hb dL_law_1272 (by decide) ?_
  refine lv_iadd hx hb dL_law_1273 ?_
  refine ow_topi (y := 1) (by decide) ?_
  refine va_sld hx hb hX hbl hbA hS (vp_in_nI (n := 1) (N := 6) (by decide) (by decide)) dL_law_1274 ?_
  refine ow_topi (y := xs 1) (congrArg xs (by decide)) ?_
  have hPc := hP.sub (ws' := [(y, .inr (16, v.1))]) [2] rfl
  have hDc := hD.sub (ws' := [(y, .inr (16, v.1))]) [2] (by decide) rfl
  have hFc := va_free (wc := [(y, .inr (16, v.1))]) hD hS hA [2] rfl
  refine va_calli (va_runV (As := [.int (xs 1)]) (rest := []) ⟨hx, hb, hml, hown, hts⟩ (kf_X13_moved l dC dI cI cB cJ cZ y H.size v.1 hv.1 (hv.2.at 24 rfl) (xs 1)) (cwV 1 hts gw_X13_moved rfl rfl rfl (by decide +kernel) ⟨(Nat.le_of_ble_eq_true rfl), (Nat.le_of_ble_eq_true rfl)⟩) ⟨fun a U g mk q => by obtain ⟨q0, q1, qP, qK, qD⟩ := q; exact ⟨q0, q1, qP, va_K.moved (u := U) (U := U.calling g mk a) (Vm.Alike.refl U.vm) qK, qD⟩, va_recv hK hPc (ci := 16) (q0 := 0) rfl rfl, fun U hU hW => ⟨rfl, by rw [hU], by rw [hU]; exact hPc, va_K.moved hW.alike hK, hDc.weaken (fun _ _ _ _ => trivial)⟩⟩ rfl rfl hl.1 rfl (lv_room (Nat.le_of_ble_eq_true rfl)) dL_law_1275 ⟨(Nat.le_of_ble_eq_true rfl), (Nat.le_of_ble_eq_true rfl)⟩) hS (fun q _ h => hFc q h) hFc (fun r9 g9 t H1 locs ht hvm hw hB hz1 hk1 hS => ?_)
  obtain ⟨hP1, hD1⟩ := hB
  rw [ht] at hP1
  obtain ⟨hP, hD⟩ := va_join (wr := [(x, .inr (14, [.ref (u 0), .ref (u 1), .ref (u 2), .ref (u 3), .ref (u 4), .ref (u 5), .ref (u 6), .ref (u 7), .ref (u 8), .ref (u 9), .ref (u 10), .ref (u 11), .ref (u 12), .ref (u 13), .ref (u 14), .ref (u 15), .ref (u 16), .ref (u 17), .ref (u 18)])), ((u 1), .inr (6, [.ref (u 23), .ref (u 24), .ref (u 25), .ref (u 26), .int 0])), (qo, .inl (cJ, 1, .inr (.inl (fun _ => 0))))]) (w1 := [(y, .inr (16, g9))]) hP hD [2] [0, 1, 3] rfl rfl (by decide) (by decide) hk1 hFc hP1 hD1
  generalize H1 = H at hP hS ⊢
  have hP : va_P (dC, dI) vwCl [(x, .inr (14, [.ref (u 0), .ref (u 1), .ref (u 2), .ref (u 3), .ref (u 4), .ref (u 5), .ref (u 6), .ref (u 7), .ref (u 8), .ref (u 9), .ref (u 10), .ref (u 11), .ref (u 12), .ref (u 13), .ref (u 14), .ref (u 15), .ref (u 16), .ref (u 17), .ref (u 18)])), ((u 1), .inr (6, [.ref (u 23), .ref (u 24), .ref (u 25), .ref (u 26), .int 0])), (qo, .inl (cJ, 1, .inr (.inl (fun _ => 0)))), (y, .inr (16, g9))] H := hP
  have hD : va_D (fun q : Nat => s.heap.size ≤ q) [(x, .inr (14, [.ref (u 0), .ref (u 1), .ref (u 2), .ref (u 3), .ref (u 4), .ref (u 5), .ref (u 6), .ref (u 7), .ref (u 8), .ref (u 9), .ref (u 10), .ref (u 11), .ref (u 12), .ref (u 13), .ref (u 14), .ref (u 15), .ref (u 16), .ref (u 17), .ref (u 18)])), ((u 1), .inr (6, [.ref (u 23), .ref (u 24), .ref (u 25), .ref (u 26), .int 0])), (qo, .inl (cJ, 1, .inr (.inl (fun _ => 0)))), (y, .inr (16, g9))] := hD
  obtain ⟨hr9, hg0⟩ := hw
  subst hr9
  refine lv_istore (lv' := [(6, .int 0), (5, .int 1), (0, .ref b), (1, .ref x), (2, .ref y), (3, .ref qo), (4, .int 0)]) hx hb dL_law_1278 hl (by decide) rfl (fun ls hl => ?_)
  refine lv_aload_n hx hb dL_law_1280 rfl (lv_at hl 4 rfl) ?_
  have hPc := hP.sub (ws' := [(y, .inr (16, g9))]) [3] rfl
  refine va_calli (va_runV (As := []) (rest := []) ⟨hx, hb, hml, hown, hts⟩ (kf_X13_thrownN l dC dI cI cB cJ cZ y g9 1 hg0) (cwV 0 hts gw_X13_thrown rfl rfl rfl (by decide +kernel) ⟨(Nat.le_of_ble_eq_true rfl), (Nat.le_of_ble_eq_true rfl)⟩) ⟨fun a U g mk q => by obtain ⟨q0, qP, qK⟩ := q; exact ⟨q0, qP, va_K.moved (u := U) (U := U.calling g mk a) (Vm.Alike.refl U.vm) qK⟩, va_recv hK hPc (ci := 16) (q0 := 0) rfl rfl, fun U hU hW => ⟨rfl, by rw [hU]; exact hPc, va_K.moved hW.alike hK⟩⟩ rfl rfl hl.1 rfl (lv_room (Nat.le_of_ble_eq_true rfl)) dL_law_1281 ⟨(Nat.le_of_ble_eq_true rfl), (Nat.le_of_ble_eq_true rfl)⟩) hS (fun q _ h => h.elim) (fun q h => h.elim) (fun r8 un t H1 locs ht hvm hw8 hB hz1 hk1 hS => ?_)
  obtain rfl : r8 = 1 := hw8
  have hP := hP.kept (fun k9 x9 h9 => hk1 x9.1 ((hP k9 x9 h9).lt) id)
  generalize H1 = H at hP hS ⊢
  refine lv_iload hx hb dL_law_1284 (lv_at hl 1 rfl) ?_
  refine lv_icmp_eq (tgt := 1291) hx hb dL_law_1286 (by decide) (fun _ => ?_) (fun c9 => absurd (rfl) c9)
  refine lv_iload hx hb dL_law_1291 (lv_at hl 1 rfl) ?_
  refine lv_if_ne (tgt := 1308) hx hb dL_law_1293 (by decide) (fun _ => ?_) (fun c9 => absurd c9 (by decide))
  refine lv_goto (tgt := 2616) hx hb dL_law_1308 (by decide) ?_
  exact lc_fin C0 hS (lv_sub hl [2, 6] rfl) (Nat.le_of_ble_eq_true rfl) (Nat.le_of_ble_eq_true rfl)
theorem dL_law_1311 : decode cL_law 1311 = .ok (.aload_n 1, 1) := by decide +kernel
theorem dL_law_1312 : decode cL_law 1312 = .ok (.aload_n 0, 1) := by decide +kernel
theorem dL_law_1313 : decode cL_law 1313 = .ok (.iload 4, 2) := by decide +kernel
theorem dL_law_1315 : decode cL_law 1315 = .ok (.iconst 1, 1) := by decide +kernel
theorem dL_law_1316 : decode cL_law 1316 = .ok (.iadd, 1) := by decide +kernel
theorem dL_law_1317 : decode cL_law 1317 = .ok (.iaload, 1) := by decide +kernel
theorem dL_law_1318 : decode cL_law 1318 = .ok (.aload_n 3, 1) := by decide +kernel
theorem dL_law_1319 : decode cL_law 1319 = .ok (.invokestatic 202, 3) := by decide +kernel
theorem dL_law_1322 : decode cL_law 1322 = .ok (.istore 5, 2) := by decide +kernel
theorem dL_law_1324 : decode cL_law 1324 = .ok (.aload_n 2, 1) := by decide +kernel
theorem dL_law_1325 : decode cL_law 1325 = .ok (.aload_n 0, 1) := by decide +kernel
theorem dL_law_1326 : decode cL_law 1326 = .ok (.iload 4, 2) := by decide +kernel
theorem dL_law_1328 : decode cL_law 1328 = .ok (.iconst 1, 1) := by decide +kernel
theorem dL_law_1329 : decode cL_law 1329 = .ok (.iadd, 1) := by decide +kernel
theorem dL_law_1330 : decode cL_law 1330 = .ok (.iaload, 1) := by decide +kernel
theorem dL_law_1331 : decode cL_law 1331 = .ok (.invokevirtual 204, 3) := by decide +kernel
theorem dL_law_1334 : decode cL_law 1334 = .ok (.istore 6, 2) := by decide +kernel
theorem dL_law_1336 : decode cL_law 1336 = .ok (.aload_n 2, 1) := by decide +kernel
theorem dL_law_1337 : decode cL_law 1337 = .ok (.invokevirtual 137, 3) := by decide +kernel
theorem dL_law_1340 : decode cL_law 1340 = .ok (.iload 5, 2) := by decide +kernel
theorem dL_law_1342 : decode cL_law 1342 = .ok (.if_icmp .eq 5, 3) := by decide +kernel
theorem dL_law_1345 : decode cL_law 1345 = .ok (.iconst 0, 1) := by decide +kernel
theorem dL_law_1346 : decode cL_law 1346 = .ok (.ireturn, 1) := by decide +kernel
theorem dL_law_1347 : decode cL_law 1347 = .ok (.iload 5, 2) := by decide +kernel
theorem dL_law_1349 : decode cL_law 1349 = .ok (.ifCond .ne 15, 3) := by decide +kernel
theorem dL_law_1352 : decode cL_law 1352 = .ok (.aload_n 3, 1) := by decide +kernel
theorem dL_law_1353 : decode cL_law 1353 = .ok (.iconst 0, 1) := by decide +kernel
theorem dL_law_1354 : decode cL_law 1354 = .ok (.laload, 1) := by decide +kernel
theorem dL_law_1355 : decode cL_law 1355 = .ok (.iload 6, 2) := by decide +kernel
theorem dL_law_1357 : decode cL_law 1357 = .ok (.i2l, 1) := by decide +kernel
theorem dL_law_1358 : decode cL_law 1358 = .ok (.lcmp, 1) := by decide +kernel
theorem dL_law_1359 : decode cL_law 1359 = .ok (.ifCond .eq 5, 3) := by decide +kernel
theorem dL_law_1362 : decode cL_law 1362 = .ok (.iconst 0, 1) := by decide +kernel
theorem dL_law_1363 : decode cL_law 1363 = .ok (.ireturn, 1) := by decide +kernel
theorem dL_law_1364 : decode cL_law 1364 = .ok (.goto 1252, 3) := by decide +kernel
set_option maxHeartbeats 4000000 in
set_option maxRecDepth 100000 in
theorem lc_simplify {p : Program} {l : Launch} {e : Env} {s : State} {m : MethodId} {below : List Frame} {meth : Method} {c : Code} {b : Nat} {xs : Nat → Int32} {dC : Nat → ClassId} {dI : Nat → Nat → Nat} {cI cB cJ cZ : ClassId} {sa : Nat → Nat} (C0 : lw_At p s m meth c b 6 xs) (hG : ow_LG l s dC dI cI cB cJ cZ sa) {x y qo : Nat} {u : Nat → Nat} {v : List Value × (Nat → Nat)} (hv : kn_X13_init v) {H : Heap} {locs : List Loc} {ls : Array Slot} (hP : va_P (dC, dI) vwCl (wd_X11_init cI cB cJ x u ++ (wd_X13_init cI cB y v ++ [(qo, .inl (cJ, 1, .inr (.inl (fun _ => 0))))])) H) (hD : va_D (fun q : Nat => s.heap.size ≤ q) (wd_X11_init cI cB cJ x u ++ (wd_X13_init cI cB y v ++ [(qo, .inl (cJ, 1, .inr (.inl (fun _ => 0))))]))) (hS : va_S (fun q : Nat => s.heap.size ≤ q) s.heap H locs) (hl : lv_has ls 8 [(0, .ref b), (1, .ref x), (2, .ref y), (3, .ref qo), (4, .int 0)]) : W p l e room_1 s m #[Value.ref b] below meth c H locs 694 1334208 (lw_Z below #[Value.ref b] s) (F0 m 1311 ls []) := by
  obtain ⟨hx, hb, hr, hml, hown, hts, hX, hbl, hlocks, hgv⟩ := id C0
  have hown : s.vm.findClass RL = some m.cls := hown
  have hA : ∀ q : Nat, s.heap.size ≤ q → (fun q : Nat => s.heap.size ≤ q) q := fun _ h => h
  have hbA : ¬ (fun q : Nat => s.heap.size ≤ q) b := Nat.not_le.mpr hbl
  have hK := hG.2.1
  have hP := hP.sub (ws' := [(x, .inr (14, [.ref (u 0), .ref (u 1), .ref (u 2), .ref (u 3), .ref (u 4), .ref (u 5), .ref (u 6), .ref (u 7), .ref (u 8), .ref (u 9), .ref (u 10), .ref (u 11), .ref (u 12), .ref (u 13), .ref (u 14), .ref (u 15), .ref (u 16), .ref (u 17), .ref (u 18)])), ((u 0), .inr (6, [.ref (u 19), .ref (u 20), .ref (u 21), .ref (u 22), .int 0])), ((u 20), .inl (cB, 40, .inl (fun _ => 0))), (y, .inr (16, v.1)), ((v.2 1), .inl (cI, 1280, .inl (fun _ => 0))), (qo, .inl (cJ, 1, .inr (.inl (fun _ => 0))))]) [0, 1, 3, 60, 62, 71] rfl
  have hD := hD.sub (ws' := [(x, .inr (14, [.ref (u 0), .ref (u 1), .ref (u 2), .ref (u 3), .ref (u 4), .ref (u 5), .ref (u 6), .ref (u 7), .ref (u 8), .ref (u 9), .ref (u 10), .ref (u 11), .ref (u 12), .ref (u 13), .ref (u 14), .ref (u 15), .ref (u 16), .ref (u 17), .ref (u 18)])), ((u 0), .inr (6, [.ref (u 19), .ref (u 20), .ref (u 21), .ref (u 22), .int 0])), ((u 20), .inl (cB, 40, .inl (fun _ => 0))), (y, .inr (16, v.1)), ((v.2 1), .inl (cI, 1280, .inl (fun _ => 0))), (qo, .inl (cJ, 1, .inr (.inl (fun _ => 0))))]) [0, 1, 3, 60, 62, 71] (by decide) rfl
  refine lv_aload_n hx hb dL_law_1311 rfl (lv_at hl 1 rfl) ?_
  refine lv_aload_n hx hb dL_law_1312 rfl (lv_at hl 0 rfl) ?_
  refine lv_iload hx hb dL_law_1313 (lv_at hl 4 rfl) ?_
  refine lv_iconst (v := 1) hx hb dL_law_1315 (by decide) ?_
  refine lv_iadd hx hb dL_law_1316 ?_
  refine ow_topi (y := 1) (by decide) ?_
  refine va_sld hx hb hX hbl hbA hS (vp_in_nI (n := 1) (N := 6) (by decide) (by decide)) dL_law_1317 ?_
  refine ow_topi (y := xs 1) (congrArg xs (by decide)) ?_
  refine lv_aload_n hx hb dL_law_1318 rfl (lv_at hl 3 rfl) ?_
  have hPc := hP.sub (ws' := [(x, .inr (14, [.ref (u 0), .ref (u 1), .ref (u 2), .ref (u 3), .ref (u 4), .ref (u 5), .ref (u 6), .ref (u 7), .ref (u 8), .ref (u 9), .ref (u 10), .ref (u 11), .ref (u 12), .ref (u 13), .ref (u 14), .ref (u 15), .ref (u 16), .ref (u 17), .ref (u 18)])), ((u 0), .inr (6, [.ref (u 19), .ref (u 20), .ref (u 21), .ref (u 22), .int 0])), ((u 20), .inl (cB, 40, .inl (fun _ => 0)))]) [0, 1, 2] rfl
  refine vx_calli (vx_runSX (As := [.ref x, .int (xs 1), .ref qo]) (rest := []) ⟨hx, hb, hml, hown, hts⟩ (kf_L_simplify l dC dI cI cB cJ cZ hG.1 x (sa 0) qo u (xs 1)) (vx_cwSW 3 hts gw_L_simplify rfl rfl rfl (by decide +kernel) ⟨(Nat.le_of_ble_eq_true rfl), (Nat.le_of_ble_eq_true rfl)⟩) ⟨fun a U g mk q => by obtain ⟨q0, qP, qK, qT⟩ := q; exact ⟨q0, qP, va_K.moved (u := U) (U := U.calling g mk a) (Vm.Alike.refl U.vm) qK, qT.same rfl rfl⟩, fun U hU hW => ⟨rfl, by rw [hU]; exact hPc, va_K.moved hW.alike hK, (hG.2.2.2.1).to hS hW hU (fun q h => h.elim)⟩⟩ rfl rfl hl.1 rfl (lv_room (Nat.le_of_ble_eq_true rfl)) dL_law_1319 ⟨(Nat.le_of_ble_eq_true rfl), (Nat.le_of_ble_eq_true rfl)⟩) hS (fun q _ h => h.elim) (fun q h => h.elim) (fun q _ h => h.elim) (fun E ce q9 u9 t H1 locs1 ht hvm hp hB hz hk hS hce hcv hcl => hp.elim) (fun r7 g7 t H1 locs ht hvm hw hB hz1 hk1 hS => ?_)
  obtain rfl : r7 = 1 := hw
  have hP := hP.kept (fun k9 x9 h9 => hk1 x9.1 ((hP k9 x9 h9).lt) id)
  generalize H1 = H at hP hS ⊢
  refine W.widen (k := 695) (n := 1334214) (Nat.le_of_ble_eq_true rfl) (Nat.le_of_ble_eq_true rfl) ?_
  refine lv_istore (lv' := [(5, .int 1), (0, .ref b), (1, .ref x), (2, .ref y), (3, .ref qo), (4, .int 0)]) hx hb dL_law_1322 hl (by decide) rfl (fun ls hl => ?_)
  refine lv_aload_n hx hb dL_law_1324 rfl (lv_at hl 3 rfl) ?_
  refine lv_aload_n hx hb dL_law_1325 rfl (lv_at hl 1 rfl) ?_
  refine lv_iload hx hb dL_law_1326 (lv_at hl 5 rfl) ?_
  refine lv_iconst (v := 1) hx hb dL_law_1328 (by decide) ?_
  refine lv_iadd hx hb dL_law_1329 ?_
  refine ow_topi (y := 1) (by decide) ?_
  refine va_sld hx hb hX hbl hbA hS (vp_in_nI (n := 1) (N := 6) (by decide) (by decide)) dL_law_1330 ?_
  refine ow_topi (y := xs 1) (congrArg xs (by decide)) ?_
  have hPc := hP.sub (ws' := [(y, .inr (16, v.1)), ((v.2 1), .inl (cI, 1280, .inl (fun _ => 0)))]) [3, 4] rfl
  have hDc := hD.sub (ws' := [(y, .inr (16, v.1)), ((v.2 1), .inl (cI, 1280, .inl (fun _ => 0)))]) [3, 4] (by decide) rfl
  have hFc := va_free (wc := [(y, .inr (16, v.1)), ((v.2 1), .inl (cI, 1280, .inl (fun _ => 0)))]) hD hS hA [3, 4] rfl
  refine va_calli (va_runV (As := [.int (xs 1)]) (rest := []) ⟨hx, hb, hml, hown, hts⟩ (kf_X13_simplify l dC dI cI cB cJ cZ y (v.2 1) H.size v.1 hv.1 (hv.2.at 20 rfl) (xs 1)) (cwV 1 hts gw_X13_simplify rfl rfl rfl (by decide +kernel) ⟨(Nat.le_of_ble_eq_true rfl), (Nat.le_of_ble_eq_true rfl)⟩) ⟨fun a U g mk q => by obtain ⟨q0, q1, qP, qK, qD⟩ := q; exact ⟨q0, q1, qP, va_K.moved (u := U) (U := U.calling g mk a) (Vm.Alike.refl U.vm) qK, qD⟩, va_recv hK hPc (ci := 16) (q0 := 0) rfl rfl, fun U hU hW => ⟨rfl, by rw [hU], by rw [hU]; exact hPc, va_K.moved hW.alike hK, hDc.weaken (fun _ _ _ _ => trivial)⟩⟩ rfl rfl hl.1 rfl (lv_room (Nat.le_of_ble_eq_true rfl)) dL_law_1331 ⟨(Nat.le_of_ble_eq_true rfl), (Nat.le_of_ble_eq_true rfl)⟩) hS (fun q _ h => hFc q h) hFc (fun r9 g9 t H1 locs ht hvm hw hB hz1 hk1 hS => ?_)
  obtain ⟨hP1, hD1⟩ := hB
  rw [ht] at hP1
  obtain ⟨hP, hD⟩ := va_join (wr := [(x, .inr (14, [.ref (u 0), .ref (u 1), .ref (u 2), .ref (u 3), .ref (u 4), .ref (u 5), .ref (u 6), .ref (u 7), .ref (u 8), .ref (u 9), .ref (u 10), .ref (u 11), .ref (u 12), .ref (u 13), .ref (u 14), .ref (u 15), .ref (u 16), .ref (u 17), .ref (u 18)])), ((u 0), .inr (6, [.ref (u 19), .ref (u 20), .ref (u 21), .ref (u 22), .int 0])), ((u 20), .inl (cB, 40, .inl (fun _ => 0))), (qo, .inl (cJ, 1, .inr (.inl (fun _ => 0))))]) (w1 := [(y, .inr (16, g9))]) hP hD [3, 4] [0, 1, 2, 5] rfl rfl (by decide) (by decide) hk1 hFc hP1 hD1
  generalize H1 = H at hP hS ⊢
  have hP : va_P (dC, dI) vwCl [(x, .inr (14, [.ref (u 0), .ref (u 1), .ref (u 2), .ref (u 3), .ref (u 4), .ref (u 5), .ref (u 6), .ref (u 7), .ref (u 8), .ref (u 9), .ref (u 10), .ref (u 11), .ref (u 12), .ref (u 13), .ref (u 14), .ref (u 15), .ref (u 16), .ref (u 17), .ref (u 18)])), ((u 0), .inr (6, [.ref (u 19), .ref (u 20), .ref (u 21), .ref (u 22), .int 0])), ((u 20), .inl (cB, 40, .inl (fun _ => 0))), (qo, .inl (cJ, 1, .inr (.inl (fun _ => 0)))), (y, .inr (16, g9))] H := hP
  have hD : va_D (fun q : Nat => s.heap.size ≤ q) [(x, .inr (14, [.ref (u 0), .ref (u 1), .ref (u 2), .ref (u 3), .ref (u 4), .ref (u 5), .ref (u 6), .ref (u 7), .ref (u 8), .ref (u 9), .ref (u 10), .ref (u 11), .ref (u 12), .ref (u 13), .ref (u 14), .ref (u 15), .ref (u 16), .ref (u 17), .ref (u 18)])), ((u 0), .inr (6, [.ref (u 19), .ref (u 20), .ref (u 21), .ref (u 22), .int 0])), ((u 20), .inl (cB, 40, .inl (fun _ => 0))), (qo, .inl (cJ, 1, .inr (.inl (fun _ => 0)))), (y, .inr (16, g9))] := hD
  obtain ⟨hr9, hg0⟩ := hw
  subst hr9
  refine lv_istore (lv' := [(6, .int 0), (5, .int 1), (0, .ref b), (1, .ref x), (2, .ref y), (3, .ref qo), (4, .int 0)]) hx hb dL_law_1334 hl (by decide) rfl (fun ls hl => ?_)
  refine lv_aload_n hx hb dL_law_1336 rfl (lv_at hl 4 rfl) ?_
  have hPc := hP.sub (ws' := [(y, .inr (16, g9))]) [4] rfl
  refine va_calli (va_runV (As := []) (rest := []) ⟨hx, hb, hml, hown, hts⟩ (kf_X13_thrownN l dC dI cI cB cJ cZ y g9 1 hg0) (cwV 0 hts gw_X13_thrown rfl rfl rfl (by decide +kernel) ⟨(Nat.le_of_ble_eq_true rfl), (Nat.le_of_ble_eq_true rfl)⟩) ⟨fun a U g mk q => by obtain ⟨q0, qP, qK⟩ := q; exact ⟨q0, qP, va_K.moved (u := U) (U := U.calling g mk a) (Vm.Alike.refl U.vm) qK⟩, va_recv hK hPc (ci := 16) (q0 := 0) rfl rfl, fun U hU hW => ⟨rfl, by rw [hU]; exact hPc, va_K.moved hW.alike hK⟩⟩ rfl rfl hl.1 rfl (lv_room (Nat.le_of_ble_eq_true rfl)) dL_law_1337 ⟨(Nat.le_of_ble_eq_true rfl), (Nat.le_of_ble_eq_true rfl)⟩) hS (fun q _ h => h.elim) (fun q h => h.elim) (fun r8 un t H1 locs ht hvm hw8 hB hz1 hk1 hS => ?_)
  obtain rfl : r8 = 1 := hw8
  have hP := hP.kept (fun k9 x9 h9 => hk1 x9.1 ((hP k9 x9 h9).lt) id)
  generalize H1 = H at hP hS ⊢
  refine lv_iload hx hb dL_law_1340 (lv_at hl 1 rfl) ?_
  refine lv_icmp_eq (tgt := 1347) hx hb dL_law_1342 (by decide) (fun _ => ?_) (fun c9 => absurd (rfl) c9)
  refine lv_iload hx hb dL_law_1347 (lv_at hl 1 rfl) ?_
  refine lv_if_ne (tgt := 1364) hx hb dL_law_1349 (by decide) (fun _ => ?_) (fun c9 => absurd c9 (by decide))
  refine lv_goto (tgt := 2616) hx hb dL_law_1364 (by decide) ?_
  exact lc_fin C0 hS (lv_sub hl [2, 6] rfl) (Nat.le_of_ble_eq_true rfl) (Nat.le_of_ble_eq_true rfl)
theorem dL_law_1367 : decode cL_law 1367 = .ok (.aload_n 1, 1) := by decide +kernel
theorem dL_law_1368 : decode cL_law 1368 = .ok (.aload_n 0, 1) := by decide +kernel
theorem dL_law_1369 : decode cL_law 1369 = .ok (.iload 4, 2) := by decide +kernel
theorem dL_law_1371 : decode cL_law 1371 = .ok (.iconst 1, 1) := by decide +kernel
theorem dL_law_1372 : decode cL_law 1372 = .ok (.iadd, 1) := by decide +kernel
theorem dL_law_1373 : decode cL_law 1373 = .ok (.iaload, 1) := by decide +kernel
theorem dL_law_1374 : decode cL_law 1374 = .ok (.aload_n 0, 1) := by decide +kernel
theorem dL_law_1375 : decode cL_law 1375 = .ok (.iload 4, 2) := by decide +kernel
theorem dL_law_1377 : decode cL_law 1377 = .ok (.iconst 2, 1) := by decide +kernel
theorem dL_law_1378 : decode cL_law 1378 = .ok (.iadd, 1) := by decide +kernel
theorem dL_law_1379 : decode cL_law 1379 = .ok (.iaload, 1) := by decide +kernel
theorem dL_law_1380 : decode cL_law 1380 = .ok (.aload_n 3, 1) := by decide +kernel
theorem dL_law_1381 : decode cL_law 1381 = .ok (.invokestatic 205, 3) := by decide +kernel
theorem dL_law_1384 : decode cL_law 1384 = .ok (.istore 5, 2) := by decide +kernel
theorem dL_law_1386 : decode cL_law 1386 = .ok (.aload_n 2, 1) := by decide +kernel
theorem dL_law_1387 : decode cL_law 1387 = .ok (.aload_n 0, 1) := by decide +kernel
theorem dL_law_1388 : decode cL_law 1388 = .ok (.iload 4, 2) := by decide +kernel
theorem dL_law_1390 : decode cL_law 1390 = .ok (.iconst 1, 1) := by decide +kernel
theorem dL_law_1391 : decode cL_law 1391 = .ok (.iadd, 1) := by decide +kernel
theorem dL_law_1392 : decode cL_law 1392 = .ok (.iaload, 1) := by decide +kernel
theorem dL_law_1393 : decode cL_law 1393 = .ok (.aload_n 0, 1) := by decide +kernel
theorem dL_law_1394 : decode cL_law 1394 = .ok (.iload 4, 2) := by decide +kernel
theorem dL_law_1396 : decode cL_law 1396 = .ok (.iconst 2, 1) := by decide +kernel
theorem dL_law_1397 : decode cL_law 1397 = .ok (.iadd, 1) := by decide +kernel
theorem dL_law_1398 : decode cL_law 1398 = .ok (.iaload, 1) := by decide +kernel
theorem dL_law_1399 : decode cL_law 1399 = .ok (.invokevirtual 207, 3) := by decide +kernel
theorem dL_law_1402 : decode cL_law 1402 = .ok (.istore 6, 2) := by decide +kernel
theorem dL_law_1404 : decode cL_law 1404 = .ok (.aload_n 2, 1) := by decide +kernel
theorem dL_law_1405 : decode cL_law 1405 = .ok (.invokevirtual 137, 3) := by decide +kernel
theorem dL_law_1408 : decode cL_law 1408 = .ok (.iload 5, 2) := by decide +kernel
theorem dL_law_1410 : decode cL_law 1410 = .ok (.if_icmp .eq 5, 3) := by decide +kernel
theorem dL_law_1413 : decode cL_law 1413 = .ok (.iconst 0, 1) := by decide +kernel
theorem dL_law_1414 : decode cL_law 1414 = .ok (.ireturn, 1) := by decide +kernel
theorem dL_law_1415 : decode cL_law 1415 = .ok (.iload 5, 2) := by decide +kernel
theorem dL_law_1417 : decode cL_law 1417 = .ok (.ifCond .ne 15, 3) := by decide +kernel
theorem dL_law_1420 : decode cL_law 1420 = .ok (.aload_n 3, 1) := by decide +kernel
theorem dL_law_1421 : decode cL_law 1421 = .ok (.iconst 0, 1) := by decide +kernel
theorem dL_law_1422 : decode cL_law 1422 = .ok (.laload, 1) := by decide +kernel
theorem dL_law_1423 : decode cL_law 1423 = .ok (.iload 6, 2) := by decide +kernel
theorem dL_law_1425 : decode cL_law 1425 = .ok (.i2l, 1) := by decide +kernel
theorem dL_law_1426 : decode cL_law 1426 = .ok (.lcmp, 1) := by decide +kernel
theorem dL_law_1427 : decode cL_law 1427 = .ok (.ifCond .eq 5, 3) := by decide +kernel
theorem dL_law_1430 : decode cL_law 1430 = .ok (.iconst 0, 1) := by decide +kernel
theorem dL_law_1431 : decode cL_law 1431 = .ok (.ireturn, 1) := by decide +kernel
theorem dL_law_1432 : decode cL_law 1432 = .ok (.goto 1184, 3) := by decide +kernel
set_option maxHeartbeats 4000000 in
set_option maxRecDepth 100000 in
theorem lc_way {p : Program} {l : Launch} {e : Env} {s : State} {m : MethodId} {below : List Frame} {meth : Method} {c : Code} {b : Nat} {xs : Nat → Int32} {dC : Nat → ClassId} {dI : Nat → Nat → Nat} {cI cB cJ cZ : ClassId} {sa : Nat → Nat} (C0 : lw_At p s m meth c b 6 xs) (hG : ow_LG l s dC dI cI cB cJ cZ sa) {x y qo : Nat} {u : Nat → Nat} {v : List Value × (Nat → Nat)} (hv : kn_X13_init v) {H : Heap} {locs : List Loc} {ls : Array Slot} (hP : va_P (dC, dI) vwCl (wd_X11_init cI cB cJ x u ++ (wd_X13_init cI cB y v ++ [(qo, .inl (cJ, 1, .inr (.inl (fun _ => 0))))])) H) (hD : va_D (fun q : Nat => s.heap.size ≤ q) (wd_X11_init cI cB cJ x u ++ (wd_X13_init cI cB y v ++ [(qo, .inl (cJ, 1, .inr (.inl (fun _ => 0))))]))) (hS : va_S (fun q : Nat => s.heap.size ≤ q) s.heap H locs) (hl : lv_has ls 8 [(0, .ref b), (1, .ref x), (2, .ref y), (3, .ref qo), (4, .int 0)]) : W p l e room_1 s m #[Value.ref b] below meth c H locs 694 1334208 (lw_Z below #[Value.ref b] s) (F0 m 1367 ls []) := by
  obtain ⟨hx, hb, hr, hml, hown, hts, hX, hbl, hlocks, hgv⟩ := id C0
  have hown : s.vm.findClass RL = some m.cls := hown
  have hA : ∀ q : Nat, s.heap.size ≤ q → (fun q : Nat => s.heap.size ≤ q) q := fun _ h => h
  have hbA : ¬ (fun q : Nat => s.heap.size ≤ q) b := Nat.not_le.mpr hbl
  have hK := hG.2.1
  have hP := hP.sub (ws' := [(x, .inr (14, [.ref (u 0), .ref (u 1), .ref (u 2), .ref (u 3), .ref (u 4), .ref (u 5), .ref (u 6), .ref (u 7), .ref (u 8), .ref (u 9), .ref (u 10), .ref (u 11), .ref (u 12), .ref (u 13), .ref (u 14), .ref (u 15), .ref (u 16), .ref (u 17), .ref (u 18)])), ((u 0), .inr (6, [.ref (u 19), .ref (u 20), .ref (u 21), .ref (u 22), .int 0])), ((u 20), .inl (cB, 40, .inl (fun _ => 0))), (y, .inr (16, v.1)), ((v.2 1), .inl (cI, 1280, .inl (fun _ => 0))), (qo, .inl (cJ, 1, .inr (.inl (fun _ => 0))))]) [0, 1, 3, 60, 62, 71] rfl
  have hD := hD.sub (ws' := [(x, .inr (14, [.ref (u 0), .ref (u 1), .ref (u 2), .ref (u 3), .ref (u 4), .ref (u 5), .ref (u 6), .ref (u 7), .ref (u 8), .ref (u 9), .ref (u 10), .ref (u 11), .ref (u 12), .ref (u 13), .ref (u 14), .ref (u 15), .ref (u 16), .ref (u 17), .ref (u 18)])), ((u 0), .inr (6, [.ref (u 19), .ref (u 20), .ref (u 21), .ref (u 22), .int 0])), ((u 20), .inl (cB, 40, .inl (fun _ => 0))), (y, .inr (16, v.1)), ((v.2 1), .inl (cI, 1280, .inl (fun _ => 0))), (qo, .inl (cJ, 1, .inr (.inl (fun _ => 0))))]) [0, 1, 3, 60, 62, 71] (by decide) rfl
  refine lv_aload_n hx hb dL_law_1367 rfl (lv_at hl 1 rfl) ?_
  refine lv_aload_n hx hb dL_law_1368 rfl (lv_at hl 0 rfl) ?_
  refine lv_iload hx hb dL_law_1369 (lv_at hl 4 rfl) ?_
  refine lv_iconst (v := 1) hx hb dL_law_1371 (by decide) ?_
  refine lv_iadd hx hb dL_law_1372 ?_
  refine ow_topi (y := 1) (by decide) ?_
  refine va_sld hx hb hX hbl hbA hS (vp_in_nI (n := 1) (N := 6) (by decide) (by decide)) dL_law_1373 ?_
  refine ow_topi (y := xs 1) (congrArg xs (by decide)) ?_
  refine lv_aload_n hx hb dL_law_1374 rfl (lv_at hl 0 rfl) ?_
  refine lv_iload hx hb dL_law_1375 (lv_at hl 4 rfl) ?_
  refine lv_iconst (v := 2) hx hb dL_law_1377 (by decide) ?_
  refine lv_iadd hx hb dL_law_1378 ?_
  refine ow_topi (y := 2) (by decide) ?_
  refine va_sld hx hb hX hbl hbA hS (vp_in_nI (n := 2) (N := 6) (by decide) (by decide)) dL_law_1379 ?_
  refine ow_topi (y := xs 2) (congrArg xs (by decide)) ?_
  refine lv_aload_n hx hb dL_law_1380 rfl (lv_at hl 3 rfl) ?_
  have hPc := hP.sub (ws' := [(x, .inr (14, [.ref (u 0), .ref (u 1), .ref (u 2), .ref (u 3), .ref (u 4), .ref (u 5), .ref (u 6), .ref (u 7), .ref (u 8), .ref (u 9), .ref (u 10), .ref (u 11), .ref (u 12), .ref (u 13), .ref (u 14), .ref (u 15), .ref (u 16), .ref (u 17), .ref (u 18)])), ((u 0), .inr (6, [.ref (u 19), .ref (u 20), .ref (u 21), .ref (u 22), .int 0])), ((u 20), .inl (cB, 40, .inl (fun _ => 0)))]) [0, 1, 2] rfl
  refine vx_calli (vx_runSX (As := [.ref x, .int (xs 1), .int (xs 2), .ref qo]) (rest := []) ⟨hx, hb, hml, hown, hts⟩ (kf_L_way l dC dI cI cB cJ cZ hG.1 x (sa 0) qo u (xs 1) (xs 2)) (vx_cwSW 4 hts gw_L_way rfl rfl rfl (by decide +kernel) ⟨(Nat.le_of_ble_eq_true rfl), (Nat.le_of_ble_eq_true rfl)⟩) ⟨fun a U g mk q => by obtain ⟨q0, qP, qK, qT⟩ := q; exact ⟨q0, qP, va_K.moved (u := U) (U := U.calling g mk a) (Vm.Alike.refl U.vm) qK, qT.same rfl rfl⟩, fun U hU hW => ⟨rfl, by rw [hU]; exact hPc, va_K.moved hW.alike hK, (hG.2.2.2.1).to hS hW hU (fun q h => h.elim)⟩⟩ rfl rfl hl.1 rfl (lv_room (Nat.le_of_ble_eq_true rfl)) dL_law_1381 ⟨(Nat.le_of_ble_eq_true rfl), (Nat.le_of_ble_eq_true rfl)⟩) hS (fun q _ h => h.elim) (fun q h => h.elim) (fun q _ h => h.elim) (fun E ce q9 u9 t H1 locs1 ht hvm hp hB hz hk hS hce hcv hcl => hp.elim) (fun r7 g7 t H1 locs ht hvm hw hB hz1 hk1 hS => ?_)
  obtain rfl : r7 = 1 := hw
  have hP := hP.kept (fun k9 x9 h9 => hk1 x9.1 ((hP k9 x9 h9).lt) id)
  generalize H1 = H at hP hS ⊢
  refine W.widen (k := 695) (n := 1334214) (Nat.le_of_ble_eq_true rfl) (Nat.le_of_ble_eq_true rfl) ?_
  refine lv_istore (lv' := [(5, .int 1), (0, .ref b), (1, .ref x), (2, .ref y), (3, .ref qo), (4, .int 0)]) hx hb dL_law_1384 hl (by decide) rfl (fun ls hl => ?_)
  refine lv_aload_n hx hb dL_law_1386 rfl (lv_at hl 3 rfl) ?_
  refine lv_aload_n hx hb dL_law_1387 rfl (lv_at hl 1 rfl) ?_
  refine lv_iload hx hb dL_law_1388 (lv_at hl 5 rfl) ?_
  refine lv_iconst (v := 1) hx hb dL_law_1390 (by decide) ?_
  refine lv_iadd hx hb dL_law_1391 ?_
  refine ow_topi (y := 1) (by decide) ?_
  refine va_sld hx hb hX hbl hbA hS (vp_in_nI (n := 1) (N := 6) (by decide) (by decide)) dL_law_1392 ?_
  refine ow_topi (y := xs 1) (congrArg xs (by decide)) ?_
  refine lv_aload_n hx hb dL_law_1393 rfl (lv_at hl 1 rfl) ?_
  refine lv_iload hx hb dL_law_1394 (lv_at hl 5 rfl) ?_
  refine lv_iconst (v := 2) hx hb dL_law_1396 (by decide) ?_
  refine lv_iadd hx hb dL_law_1397 ?_
  refine ow_topi (y := 2) (by decide) ?_
  refine va_sld hx hb hX hbl hbA hS (vp_in_nI (n := 2) (N := 6) (by decide) (by decide)) dL_law_1398 ?_
  refine ow_topi (y := xs 2) (congrArg xs (by decide)) ?_
  have hPc := hP.sub (ws' := [(y, .inr (16, v.1)), ((v.2 1), .inl (cI, 1280, .inl (fun _ => 0)))]) [3, 4] rfl
  have hDc := hD.sub (ws' := [(y, .inr (16, v.1)), ((v.2 1), .inl (cI, 1280, .inl (fun _ => 0)))]) [3, 4] (by decide) rfl
  have hFc := va_free (wc := [(y, .inr (16, v.1)), ((v.2 1), .inl (cI, 1280, .inl (fun _ => 0)))]) hD hS hA [3, 4] rfl
  refine va_calli (va_runV (As := [.int (xs 1), .int (xs 2)]) (rest := []) ⟨hx, hb, hml, hown, hts⟩ (kf_X13_way l dC dI cI cB cJ cZ y (v.2 1) H.size v.1 hv.1 (hv.2.at 20 rfl) (xs 1) (xs 2)) (cwV 2 hts gw_X13_way rfl rfl rfl (by decide +kernel) ⟨(Nat.le_of_ble_eq_true rfl), (Nat.le_of_ble_eq_true rfl)⟩) ⟨fun a U g mk q => by obtain ⟨q0, q1, qP, qK, qD⟩ := q; exact ⟨q0, q1, qP, va_K.moved (u := U) (U := U.calling g mk a) (Vm.Alike.refl U.vm) qK, qD⟩, va_recv hK hPc (ci := 16) (q0 := 0) rfl rfl, fun U hU hW => ⟨rfl, by rw [hU], by rw [hU]; exact hPc, va_K.moved hW.alike hK, hDc.weaken (fun _ _ _ _ => trivial)⟩⟩ rfl rfl hl.1 rfl (lv_room (Nat.le_of_ble_eq_true rfl)) dL_law_1399 ⟨(Nat.le_of_ble_eq_true rfl), (Nat.le_of_ble_eq_true rfl)⟩) hS (fun q _ h => hFc q h) hFc (fun r9 g9 t H1 locs ht hvm hw hB hz1 hk1 hS => ?_)
  obtain ⟨hP1, hD1⟩ := hB
  rw [ht] at hP1
  obtain ⟨hP, hD⟩ := va_join (wr := [(x, .inr (14, [.ref (u 0), .ref (u 1), .ref (u 2), .ref (u 3), .ref (u 4), .ref (u 5), .ref (u 6), .ref (u 7), .ref (u 8), .ref (u 9), .ref (u 10), .ref (u 11), .ref (u 12), .ref (u 13), .ref (u 14), .ref (u 15), .ref (u 16), .ref (u 17), .ref (u 18)])), ((u 0), .inr (6, [.ref (u 19), .ref (u 20), .ref (u 21), .ref (u 22), .int 0])), ((u 20), .inl (cB, 40, .inl (fun _ => 0))), (qo, .inl (cJ, 1, .inr (.inl (fun _ => 0))))]) (w1 := [(y, .inr (16, g9))]) hP hD [3, 4] [0, 1, 2, 5] rfl rfl (by decide) (by decide) hk1 hFc hP1 hD1
  generalize H1 = H at hP hS ⊢
  have hP : va_P (dC, dI) vwCl [(x, .inr (14, [.ref (u 0), .ref (u 1), .ref (u 2), .ref (u 3), .ref (u 4), .ref (u 5), .ref (u 6), .ref (u 7), .ref (u 8), .ref (u 9), .ref (u 10), .ref (u 11), .ref (u 12), .ref (u 13), .ref (u 14), .ref (u 15), .ref (u 16), .ref (u 17), .ref (u 18)])), ((u 0), .inr (6, [.ref (u 19), .ref (u 20), .ref (u 21), .ref (u 22), .int 0])), ((u 20), .inl (cB, 40, .inl (fun _ => 0))), (qo, .inl (cJ, 1, .inr (.inl (fun _ => 0)))), (y, .inr (16, g9))] H := hP
  have hD : va_D (fun q : Nat => s.heap.size ≤ q) [(x, .inr (14, [.ref (u 0), .ref (u 1), .ref (u 2), .ref (u 3), .ref (u 4), .ref (u 5), .ref (u 6), .ref (u 7), .ref (u 8), .ref (u 9), .ref (u 10), .ref (u 11), .ref (u 12), .ref (u 13), .ref (u 14), .ref (u 15), .ref (u 16), .ref (u 17), .ref (u 18)])), ((u 0), .inr (6, [.ref (u 19), .ref (u 20), .ref (u 21), .ref (u 22), .int 0])), ((u 20), .inl (cB, 40, .inl (fun _ => 0))), (qo, .inl (cJ, 1, .inr (.inl (fun _ => 0)))), (y, .inr (16, g9))] := hD
  obtain ⟨hr9, hg0⟩ := hw
  subst hr9
  refine lv_istore (lv' := [(6, .int 0), (5, .int 1), (0, .ref b), (1, .ref x), (2, .ref y), (3, .ref qo), (4, .int 0)]) hx hb dL_law_1402 hl (by decide) rfl (fun ls hl => ?_)
  refine lv_aload_n hx hb dL_law_1404 rfl (lv_at hl 4 rfl) ?_
  have hPc := hP.sub (ws' := [(y, .inr (16, g9))]) [4] rfl
  refine va_calli (va_runV (As := []) (rest := []) ⟨hx, hb, hml, hown, hts⟩ (kf_X13_thrownN l dC dI cI cB cJ cZ y g9 1 hg0) (cwV 0 hts gw_X13_thrown rfl rfl rfl (by decide +kernel) ⟨(Nat.le_of_ble_eq_true rfl), (Nat.le_of_ble_eq_true rfl)⟩) ⟨fun a U g mk q => by obtain ⟨q0, qP, qK⟩ := q; exact ⟨q0, qP, va_K.moved (u := U) (U := U.calling g mk a) (Vm.Alike.refl U.vm) qK⟩, va_recv hK hPc (ci := 16) (q0 := 0) rfl rfl, fun U hU hW => ⟨rfl, by rw [hU]; exact hPc, va_K.moved hW.alike hK⟩⟩ rfl rfl hl.1 rfl (lv_room (Nat.le_of_ble_eq_true rfl)) dL_law_1405 ⟨(Nat.le_of_ble_eq_true rfl), (Nat.le_of_ble_eq_true rfl)⟩) hS (fun q _ h => h.elim) (fun q h => h.elim) (fun r8 un t H1 locs ht hvm hw8 hB hz1 hk1 hS => ?_)
  obtain rfl : r8 = 1 := hw8
  have hP := hP.kept (fun k9 x9 h9 => hk1 x9.1 ((hP k9 x9 h9).lt) id)
  generalize H1 = H at hP hS ⊢
  refine lv_iload hx hb dL_law_1408 (lv_at hl 1 rfl) ?_
  refine lv_icmp_eq (tgt := 1415) hx hb dL_law_1410 (by decide) (fun _ => ?_) (fun c9 => absurd (rfl) c9)
  refine lv_iload hx hb dL_law_1415 (lv_at hl 1 rfl) ?_
  refine lv_if_ne (tgt := 1432) hx hb dL_law_1417 (by decide) (fun _ => ?_) (fun c9 => absurd c9 (by decide))
  refine lv_goto (tgt := 2616) hx hb dL_law_1432 (by decide) ?_
  exact lc_fin C0 hS (lv_sub hl [2, 6] rfl) (Nat.le_of_ble_eq_true rfl) (Nat.le_of_ble_eq_true rfl)
theorem dL_law_1435 : decode cL_law 1435 = .ok (.aload_n 1, 1) := by decide +kernel
theorem dL_law_1436 : decode cL_law 1436 = .ok (.aload_n 0, 1) := by decide +kernel
theorem dL_law_1437 : decode cL_law 1437 = .ok (.iload 4, 2) := by decide +kernel
theorem dL_law_1439 : decode cL_law 1439 = .ok (.iconst 1, 1) := by decide +kernel
theorem dL_law_1440 : decode cL_law 1440 = .ok (.iadd, 1) := by decide +kernel
theorem dL_law_1441 : decode cL_law 1441 = .ok (.iaload, 1) := by decide +kernel
theorem dL_law_1442 : decode cL_law 1442 = .ok (.aload_n 3, 1) := by decide +kernel
theorem dL_law_1443 : decode cL_law 1443 = .ok (.invokestatic 208, 3) := by decide +kernel
theorem dL_law_1446 : decode cL_law 1446 = .ok (.istore 5, 2) := by decide +kernel
theorem dL_law_1448 : decode cL_law 1448 = .ok (.aload_n 2, 1) := by decide +kernel
theorem dL_law_1449 : decode cL_law 1449 = .ok (.aload_n 0, 1) := by decide +kernel
theorem dL_law_1450 : decode cL_law 1450 = .ok (.iload 4, 2) := by decide +kernel
theorem dL_law_1452 : decode cL_law 1452 = .ok (.iconst 1, 1) := by decide +kernel
theorem dL_law_1453 : decode cL_law 1453 = .ok (.iadd, 1) := by decide +kernel
theorem dL_law_1454 : decode cL_law 1454 = .ok (.iaload, 1) := by decide +kernel
theorem dL_law_1455 : decode cL_law 1455 = .ok (.invokevirtual 210, 3) := by decide +kernel
theorem dL_law_1458 : decode cL_law 1458 = .ok (.istore 6, 2) := by decide +kernel
theorem dL_law_1460 : decode cL_law 1460 = .ok (.aload_n 2, 1) := by decide +kernel
theorem dL_law_1461 : decode cL_law 1461 = .ok (.invokevirtual 137, 3) := by decide +kernel
theorem dL_law_1464 : decode cL_law 1464 = .ok (.iload 5, 2) := by decide +kernel
theorem dL_law_1466 : decode cL_law 1466 = .ok (.if_icmp .eq 5, 3) := by decide +kernel
theorem dL_law_1469 : decode cL_law 1469 = .ok (.iconst 0, 1) := by decide +kernel
theorem dL_law_1470 : decode cL_law 1470 = .ok (.ireturn, 1) := by decide +kernel
theorem dL_law_1471 : decode cL_law 1471 = .ok (.iload 5, 2) := by decide +kernel
theorem dL_law_1473 : decode cL_law 1473 = .ok (.ifCond .ne 15, 3) := by decide +kernel
theorem dL_law_1476 : decode cL_law 1476 = .ok (.aload_n 3, 1) := by decide +kernel
theorem dL_law_1477 : decode cL_law 1477 = .ok (.iconst 0, 1) := by decide +kernel
theorem dL_law_1478 : decode cL_law 1478 = .ok (.laload, 1) := by decide +kernel
theorem dL_law_1479 : decode cL_law 1479 = .ok (.iload 6, 2) := by decide +kernel
theorem dL_law_1481 : decode cL_law 1481 = .ok (.i2l, 1) := by decide +kernel
theorem dL_law_1482 : decode cL_law 1482 = .ok (.lcmp, 1) := by decide +kernel
theorem dL_law_1483 : decode cL_law 1483 = .ok (.ifCond .eq 5, 3) := by decide +kernel
theorem dL_law_1486 : decode cL_law 1486 = .ok (.iconst 0, 1) := by decide +kernel
theorem dL_law_1487 : decode cL_law 1487 = .ok (.ireturn, 1) := by decide +kernel
theorem dL_law_1488 : decode cL_law 1488 = .ok (.goto 1128, 3) := by decide +kernel
set_option maxHeartbeats 4000000 in
set_option maxRecDepth 100000 in
theorem lc_summands {p : Program} {l : Launch} {e : Env} {s : State} {m : MethodId} {below : List Frame} {meth : Method} {c : Code} {b : Nat} {xs : Nat → Int32} {dC : Nat → ClassId} {dI : Nat → Nat → Nat} {cI cB cJ cZ : ClassId} {sa : Nat → Nat} (C0 : lw_At p s m meth c b 6 xs) (hG : ow_LG l s dC dI cI cB cJ cZ sa) {x y qo : Nat} {u : Nat → Nat} {v : List Value × (Nat → Nat)} (hv : kn_X13_init v) {H : Heap} {locs : List Loc} {ls : Array Slot} (hP : va_P (dC, dI) vwCl (wd_X11_init cI cB cJ x u ++ (wd_X13_init cI cB y v ++ [(qo, .inl (cJ, 1, .inr (.inl (fun _ => 0))))])) H) (hD : va_D (fun q : Nat => s.heap.size ≤ q) (wd_X11_init cI cB cJ x u ++ (wd_X13_init cI cB y v ++ [(qo, .inl (cJ, 1, .inr (.inl (fun _ => 0))))]))) (hS : va_S (fun q : Nat => s.heap.size ≤ q) s.heap H locs) (hl : lv_has ls 8 [(0, .ref b), (1, .ref x), (2, .ref y), (3, .ref qo), (4, .int 0)]) : W p l e room_1 s m #[Value.ref b] below meth c H locs 694 1334208 (lw_Z below #[Value.ref b] s) (F0 m 1435 ls []) := by
  obtain ⟨hx, hb, hr, hml, hown, hts, hX, hbl, hlocks, hgv⟩ := id C0
  have hown : s.vm.findClass RL = some m.cls := hown
  have hA : ∀ q : Nat, s.heap.size ≤ q → (fun q : Nat => s.heap.size ≤ q) q := fun _ h => h
  have hbA : ¬ (fun q : Nat => s.heap.size ≤ q) b := Nat.not_le.mpr hbl
  have hK := hG.2.1
  have hP := hP.sub (ws' := [(x, .inr (14, [.ref (u 0), .ref (u 1), .ref (u 2), .ref (u 3), .ref (u 4), .ref (u 5), .ref (u 6), .ref (u 7), .ref (u 8), .ref (u 9), .ref (u 10), .ref (u 11), .ref (u 12), .ref (u 13), .ref (u 14), .ref (u 15), .ref (u 16), .ref (u 17), .ref (u 18)])), ((u 0), .inr (6, [.ref (u 19), .ref (u 20), .ref (u 21), .ref (u 22), .int 0])), ((u 20), .inl (cB, 40, .inl (fun _ => 0))), (y, .inr (16, v.1)), ((v.2 1), .inl (cI, 1280, .inl (fun _ => 0))), (qo, .inl (cJ, 1, .inr (.inl (fun _ => 0))))]) [0, 1, 3, 60, 62, 71] rfl
  have hD := hD.sub (ws' := [(x, .inr (14, [.ref (u 0), .ref (u 1), .ref (u 2), .ref (u 3), .ref (u 4), .ref (u 5), .ref (u 6), .ref (u 7), .ref (u 8), .ref (u 9), .ref (u 10), .ref (u 11), .ref (u 12), .ref (u 13), .ref (u 14), .ref (u 15), .ref (u 16), .ref (u 17), .ref (u 18)])), ((u 0), .inr (6, [.ref (u 19), .ref (u 20), .ref (u 21), .ref (u 22), .int 0])), ((u 20), .inl (cB, 40, .inl (fun _ => 0))), (y, .inr (16, v.1)), ((v.2 1), .inl (cI, 1280, .inl (fun _ => 0))), (qo, .inl (cJ, 1, .inr (.inl (fun _ => 0))))]) [0, 1, 3, 60, 62, 71] (by decide) rfl
  refine lv_aload_n hx hb dL_law_1435 rfl (lv_at hl 1 rfl) ?_
  refine lv_aload_n hx hb dL_law_1436 rfl (lv_at hl 0 rfl) ?_
  refine lv_iload hx hb dL_law_1437 (lv_at hl 4 rfl) ?_
  refine lv_iconst (v := 1) hx hb dL_law_1439 (by decide) ?_
  refine lv_iadd hx hb dL_law_1440 ?_
  refine ow_topi (y := 1) (by decide) ?_
  refine va_sld hx hb hX hbl hbA hS (vp_in_nI (n := 1) (N := 6) (by decide) (by decide)) dL_law_1441 ?_
  refine ow_topi (y := xs 1) (congrArg xs (by decide)) ?_
  refine lv_aload_n hx hb dL_law_1442 rfl (lv_at hl 3 rfl) ?_
  have hPc := hP.sub (ws' := [(x, .inr (14, [.ref (u 0), .ref (u 1), .ref (u 2), .ref (u 3), .ref (u 4), .ref (u 5), .ref (u 6), .ref (u 7), .ref (u 8), .ref (u 9), .ref (u 10), .ref (u 11), .ref (u 12), .ref (u 13), .ref (u 14), .ref (u 15), .ref (u 16), .ref (u 17), .ref (u 18)])), ((u 0), .inr (6, [.ref (u 19), .ref (u 20), .ref (u 21), .ref (u 22), .int 0])), ((u 20), .inl (cB, 40, .inl (fun _ => 0)))]) [0, 1, 2] rfl
  refine vx_calli (vx_runSX (As := [.ref x, .int (xs 1), .ref qo]) (rest := []) ⟨hx, hb, hml, hown, hts⟩ (kf_L_summands l dC dI cI cB cJ cZ hG.1 x (sa 0) qo u (xs 1)) (vx_cwSW 3 hts gw_L_summands rfl rfl rfl (by decide +kernel) ⟨(Nat.le_of_ble_eq_true rfl), (Nat.le_of_ble_eq_true rfl)⟩) ⟨fun a U g mk q => by obtain ⟨q0, qP, qK, qT⟩ := q; exact ⟨q0, qP, va_K.moved (u := U) (U := U.calling g mk a) (Vm.Alike.refl U.vm) qK, qT.same rfl rfl⟩, fun U hU hW => ⟨rfl, by rw [hU]; exact hPc, va_K.moved hW.alike hK, (hG.2.2.2.1).to hS hW hU (fun q h => h.elim)⟩⟩ rfl rfl hl.1 rfl (lv_room (Nat.le_of_ble_eq_true rfl)) dL_law_1443 ⟨(Nat.le_of_ble_eq_true rfl), (Nat.le_of_ble_eq_true rfl)⟩) hS (fun q _ h => h.elim) (fun q h => h.elim) (fun q _ h => h.elim) (fun E ce q9 u9 t H1 locs1 ht hvm hp hB hz hk hS hce hcv hcl => hp.elim) (fun r7 g7 t H1 locs ht hvm hw hB hz1 hk1 hS => ?_)
  obtain rfl : r7 = 1 := hw
  have hP := hP.kept (fun k9 x9 h9 => hk1 x9.1 ((hP k9 x9 h9).lt) id)
  generalize H1 = H at hP hS ⊢
  refine W.widen (k := 695) (n := 1334214) (Nat.le_of_ble_eq_true rfl) (Nat.le_of_ble_eq_true rfl) ?_
  refine lv_istore (lv' := [(5, .int 1), (0, .ref b), (1, .ref x), (2, .ref y), (3, .ref qo), (4, .int 0)]) hx hb dL_law_1446 hl (by decide) rfl (fun ls hl => ?_)
  refine lv_aload_n hx hb dL_law_1448 rfl (lv_at hl 3 rfl) ?_
  refine lv_aload_n hx hb dL_law_1449 rfl (lv_at hl 1 rfl) ?_
  refine lv_iload hx hb dL_law_1450 (lv_at hl 5 rfl) ?_
  refine lv_iconst (v := 1) hx hb dL_law_1452 (by decide) ?_
  refine lv_iadd hx hb dL_law_1453 ?_
  refine ow_topi (y := 1) (by decide) ?_
  refine va_sld hx hb hX hbl hbA hS (vp_in_nI (n := 1) (N := 6) (by decide) (by decide)) dL_law_1454 ?_
  refine ow_topi (y := xs 1) (congrArg xs (by decide)) ?_
  have hPc := hP.sub (ws' := [(y, .inr (16, v.1)), ((v.2 1), .inl (cI, 1280, .inl (fun _ => 0)))]) [3, 4] rfl
  have hDc := hD.sub (ws' := [(y, .inr (16, v.1)), ((v.2 1), .inl (cI, 1280, .inl (fun _ => 0)))]) [3, 4] (by decide) rfl
  have hFc := va_free (wc := [(y, .inr (16, v.1)), ((v.2 1), .inl (cI, 1280, .inl (fun _ => 0)))]) hD hS hA [3, 4] rfl
  refine va_calli (va_runV (As := [.int (xs 1)]) (rest := []) ⟨hx, hb, hml, hown, hts⟩ (kf_X13_summands l dC dI cI cB cJ cZ y (v.2 1) H.size v.1 hv.1 (hv.2.at 20 rfl) (xs 1)) (cwV 1 hts gw_X13_summands rfl rfl rfl (by decide +kernel) ⟨(Nat.le_of_ble_eq_true rfl), (Nat.le_of_ble_eq_true rfl)⟩) ⟨fun a U g mk q => by obtain ⟨q0, q1, qP, qK, qD⟩ := q; exact ⟨q0, q1, qP, va_K.moved (u := U) (U := U.calling g mk a) (Vm.Alike.refl U.vm) qK, qD⟩, va_recv hK hPc (ci := 16) (q0 := 0) rfl rfl, fun U hU hW => ⟨rfl, by rw [hU], by rw [hU]; exact hPc, va_K.moved hW.alike hK, hDc.weaken (fun _ _ _ _ => trivial)⟩⟩ rfl rfl hl.1 rfl (lv_room (Nat.le_of_ble_eq_true rfl)) dL_law_1455 ⟨(Nat.le_of_ble_eq_true rfl), (Nat.le_of_ble_eq_true rfl)⟩) hS (fun q _ h => hFc q h) hFc (fun r9 g9 t H1 locs ht hvm hw hB hz1 hk1 hS => ?_)
  obtain ⟨hP1, hD1⟩ := hB
  rw [ht] at hP1
  obtain ⟨hP, hD⟩ := va_join (wr := [(x, .inr (14, [.ref (u 0), .ref (u 1), .ref (u 2), .ref (u 3), .ref (u 4), .ref (u 5), .ref (u 6), .ref (u 7), .ref (u 8), .ref (u 9), .ref (u 10), .ref (u 11), .ref (u 12), .ref (u 13), .ref (u 14), .ref (u 15), .ref (u 16), .ref (u 17), .ref (u 18)])), ((u 0), .inr (6, [.ref (u 19), .ref (u 20), .ref (u 21), .ref (u 22), .int 0])), ((u 20), .inl (cB, 40, .inl (fun _ => 0))), (qo, .inl (cJ, 1, .inr (.inl (fun _ => 0))))]) (w1 := [(y, .inr (16, g9))]) hP hD [3, 4] [0, 1, 2, 5] rfl rfl (by decide) (by decide) hk1 hFc hP1 hD1
  generalize H1 = H at hP hS ⊢
  have hP : va_P (dC, dI) vwCl [(x, .inr (14, [.ref (u 0), .ref (u 1), .ref (u 2), .ref (u 3), .ref (u 4), .ref (u 5), .ref (u 6), .ref (u 7), .ref (u 8), .ref (u 9), .ref (u 10), .ref (u 11), .ref (u 12), .ref (u 13), .ref (u 14), .ref (u 15), .ref (u 16), .ref (u 17), .ref (u 18)])), ((u 0), .inr (6, [.ref (u 19), .ref (u 20), .ref (u 21), .ref (u 22), .int 0])), ((u 20), .inl (cB, 40, .inl (fun _ => 0))), (qo, .inl (cJ, 1, .inr (.inl (fun _ => 0)))), (y, .inr (16, g9))] H := hP
  have hD : va_D (fun q : Nat => s.heap.size ≤ q) [(x, .inr (14, [.ref (u 0), .ref (u 1), .ref (u 2), .ref (u 3), .ref (u 4), .ref (u 5), .ref (u 6), .ref (u 7), .ref (u 8), .ref (u 9), .ref (u 10), .ref (u 11), .ref (u 12), .ref (u 13), .ref (u 14), .ref (u 15), .ref (u 16), .ref (u 17), .ref (u 18)])), ((u 0), .inr (6, [.ref (u 19), .ref (u 20), .ref (u 21), .ref (u 22), .int 0])), ((u 20), .inl (cB, 40, .inl (fun _ => 0))), (qo, .inl (cJ, 1, .inr (.inl (fun _ => 0)))), (y, .inr (16, g9))] := hD
  obtain ⟨hr9, hg0⟩ := hw
  subst hr9
  refine lv_istore (lv' := [(6, .int 0), (5, .int 1), (0, .ref b), (1, .ref x), (2, .ref y), (3, .ref qo), (4, .int 0)]) hx hb dL_law_1458 hl (by decide) rfl (fun ls hl => ?_)
  refine lv_aload_n hx hb dL_law_1460 rfl (lv_at hl 4 rfl) ?_
  have hPc := hP.sub (ws' := [(y, .inr (16, g9))]) [4] rfl
  refine va_calli (va_runV (As := []) (rest := []) ⟨hx, hb, hml, hown, hts⟩ (kf_X13_thrownN l dC dI cI cB cJ cZ y g9 1 hg0) (cwV 0 hts gw_X13_thrown rfl rfl rfl (by decide +kernel) ⟨(Nat.le_of_ble_eq_true rfl), (Nat.le_of_ble_eq_true rfl)⟩) ⟨fun a U g mk q => by obtain ⟨q0, qP, qK⟩ := q; exact ⟨q0, qP, va_K.moved (u := U) (U := U.calling g mk a) (Vm.Alike.refl U.vm) qK⟩, va_recv hK hPc (ci := 16) (q0 := 0) rfl rfl, fun U hU hW => ⟨rfl, by rw [hU]; exact hPc, va_K.moved hW.alike hK⟩⟩ rfl rfl hl.1 rfl (lv_room (Nat.le_of_ble_eq_true rfl)) dL_law_1461 ⟨(Nat.le_of_ble_eq_true rfl), (Nat.le_of_ble_eq_true rfl)⟩) hS (fun q _ h => h.elim) (fun q h => h.elim) (fun r8 un t H1 locs ht hvm hw8 hB hz1 hk1 hS => ?_)
  obtain rfl : r8 = 1 := hw8
  have hP := hP.kept (fun k9 x9 h9 => hk1 x9.1 ((hP k9 x9 h9).lt) id)
  generalize H1 = H at hP hS ⊢
  refine lv_iload hx hb dL_law_1464 (lv_at hl 1 rfl) ?_
  refine lv_icmp_eq (tgt := 1471) hx hb dL_law_1466 (by decide) (fun _ => ?_) (fun c9 => absurd (rfl) c9)
  refine lv_iload hx hb dL_law_1471 (lv_at hl 1 rfl) ?_
  refine lv_if_ne (tgt := 1488) hx hb dL_law_1473 (by decide) (fun _ => ?_) (fun c9 => absurd c9 (by decide))
  refine lv_goto (tgt := 2616) hx hb dL_law_1488 (by decide) ?_
  exact lc_fin C0 hS (lv_sub hl [2, 6] rfl) (Nat.le_of_ble_eq_true rfl) (Nat.le_of_ble_eq_true rfl)
theorem dL_law_1491 : decode cL_law 1491 = .ok (.aload_n 1, 1) := by decide +kernel
theorem dL_law_1492 : decode cL_law 1492 = .ok (.aload_n 0, 1) := by decide +kernel
theorem dL_law_1493 : decode cL_law 1493 = .ok (.iload 4, 2) := by decide +kernel
theorem dL_law_1495 : decode cL_law 1495 = .ok (.iconst 1, 1) := by decide +kernel
theorem dL_law_1496 : decode cL_law 1496 = .ok (.iadd, 1) := by decide +kernel
theorem dL_law_1497 : decode cL_law 1497 = .ok (.iaload, 1) := by decide +kernel
theorem dL_law_1498 : decode cL_law 1498 = .ok (.aload_n 3, 1) := by decide +kernel
theorem dL_law_1499 : decode cL_law 1499 = .ok (.invokestatic 211, 3) := by decide +kernel
theorem dL_law_1502 : decode cL_law 1502 = .ok (.istore 5, 2) := by decide +kernel
theorem dL_law_1504 : decode cL_law 1504 = .ok (.aload_n 2, 1) := by decide +kernel
theorem dL_law_1505 : decode cL_law 1505 = .ok (.aload_n 0, 1) := by decide +kernel
theorem dL_law_1506 : decode cL_law 1506 = .ok (.iload 4, 2) := by decide +kernel
theorem dL_law_1508 : decode cL_law 1508 = .ok (.iconst 1, 1) := by decide +kernel
theorem dL_law_1509 : decode cL_law 1509 = .ok (.iadd, 1) := by decide +kernel
theorem dL_law_1510 : decode cL_law 1510 = .ok (.iaload, 1) := by decide +kernel
theorem dL_law_1511 : decode cL_law 1511 = .ok (.invokevirtual 213, 3) := by decide +kernel
theorem dL_law_1514 : decode cL_law 1514 = .ok (.istore 6, 2) := by decide +kernel
theorem dL_law_1516 : decode cL_law 1516 = .ok (.aload_n 2, 1) := by decide +kernel
theorem dL_law_1517 : decode cL_law 1517 = .ok (.invokevirtual 137, 3) := by decide +kernel
theorem dL_law_1520 : decode cL_law 1520 = .ok (.iload 5, 2) := by decide +kernel
theorem dL_law_1522 : decode cL_law 1522 = .ok (.if_icmp .eq 5, 3) := by decide +kernel
theorem dL_law_1525 : decode cL_law 1525 = .ok (.iconst 0, 1) := by decide +kernel
theorem dL_law_1526 : decode cL_law 1526 = .ok (.ireturn, 1) := by decide +kernel
theorem dL_law_1527 : decode cL_law 1527 = .ok (.iload 5, 2) := by decide +kernel
theorem dL_law_1529 : decode cL_law 1529 = .ok (.ifCond .ne 15, 3) := by decide +kernel
theorem dL_law_1532 : decode cL_law 1532 = .ok (.aload_n 3, 1) := by decide +kernel
theorem dL_law_1533 : decode cL_law 1533 = .ok (.iconst 0, 1) := by decide +kernel
theorem dL_law_1534 : decode cL_law 1534 = .ok (.laload, 1) := by decide +kernel
theorem dL_law_1535 : decode cL_law 1535 = .ok (.iload 6, 2) := by decide +kernel
theorem dL_law_1537 : decode cL_law 1537 = .ok (.i2l, 1) := by decide +kernel
theorem dL_law_1538 : decode cL_law 1538 = .ok (.lcmp, 1) := by decide +kernel
theorem dL_law_1539 : decode cL_law 1539 = .ok (.ifCond .eq 5, 3) := by decide +kernel
theorem dL_law_1542 : decode cL_law 1542 = .ok (.iconst 0, 1) := by decide +kernel
theorem dL_law_1543 : decode cL_law 1543 = .ok (.ireturn, 1) := by decide +kernel
theorem dL_law_1544 : decode cL_law 1544 = .ok (.goto 1072, 3) := by decide +kernel
set_option maxHeartbeats 4000000 in
set_option maxRecDepth 100000 in
theorem lc_summand {p : Program} {l : Launch} {e : Env} {s : State} {m : MethodId} {below : List Frame} {meth : Method} {c : Code} {b : Nat} {xs : Nat → Int32} {dC : Nat → ClassId} {dI : Nat → Nat → Nat} {cI cB cJ cZ : ClassId} {sa : Nat → Nat} (C0 : lw_At p s m meth c b 6 xs) (hG : ow_LG l s dC dI cI cB cJ cZ sa) {x y qo : Nat} {u : Nat → Nat} {v : List Value × (Nat → Nat)} (hv : kn_X13_init v) {H : Heap} {locs : List Loc} {ls : Array Slot} (hP : va_P (dC, dI) vwCl (wd_X11_init cI cB cJ x u ++ (wd_X13_init cI cB y v ++ [(qo, .inl (cJ, 1, .inr (.inl (fun _ => 0))))])) H) (hD : va_D (fun q : Nat => s.heap.size ≤ q) (wd_X11_init cI cB cJ x u ++ (wd_X13_init cI cB y v ++ [(qo, .inl (cJ, 1, .inr (.inl (fun _ => 0))))]))) (hS : va_S (fun q : Nat => s.heap.size ≤ q) s.heap H locs) (hl : lv_has ls 8 [(0, .ref b), (1, .ref x), (2, .ref y), (3, .ref qo), (4, .int 0)]) : W p l e room_1 s m #[Value.ref b] below meth c H locs 694 1334208 (lw_Z below #[Value.ref b] s) (F0 m 1491 ls []) := by
  obtain ⟨hx, hb, hr, hml, hown, hts, hX, hbl, hlocks, hgv⟩ := id C0
  have hown : s.vm.findClass RL = some m.cls := hown
  have hA : ∀ q : Nat, s.heap.size ≤ q → (fun q : Nat => s.heap.size ≤ q) q := fun _ h => h
  have hbA : ¬ (fun q : Nat => s.heap.size ≤ q) b := Nat.not_le.mpr hbl
  have hK := hG.2.1
  have hP := hP.sub (ws' := [(x, .inr (14, [.ref (u 0), .ref (u 1), .ref (u 2), .ref (u 3), .ref (u 4), .ref (u 5), .ref (u 6), .ref (u 7), .ref (u 8), .ref (u 9), .ref (u 10), .ref (u 11), .ref (u 12), .ref (u 13), .ref (u 14), .ref (u 15), .ref (u 16), .ref (u 17), .ref (u 18)])), ((u 2), .inr (6, [.ref (u 27), .ref (u 28), .ref (u 29), .ref (u 30), .int 0])), (y, .inr (16, v.1)), (qo, .inl (cJ, 1, .inr (.inl (fun _ => 0))))]) [0, 11, 60, 71] rfl
  have hD := hD.sub (ws' := [(x, .inr (14, [.ref (u 0), .ref (u 1), .ref (u 2), .ref (u 3), .ref (u 4), .ref (u 5), .ref (u 6), .ref (u 7), .ref (u 8), .ref (u 9), .ref (u 10), .ref (u 11), .ref (u 12), .ref (u 13), .ref (u 14), .ref (u 15), .ref (u 16), .ref (u 17), .ref (u 18)])), ((u 2), .inr (6, [.ref (u 27), .ref (u 28), .ref (u 29), .ref (u 30), .int 0])), (y, .inr (16, v.1)), (qo, .inl (cJ, 1, .inr (.inl (fun _ => 0))))]) [0, 11, 60, 71] (by decide) rfl
  refine lv_aload_n hx hb dL_law_1491 rfl (lv_at hl 1 rfl) ?_
  refine lv_aload_n hx hb dL_law_1492 rfl (lv_at hl 0 rfl) ?_
  refine lv_iload hx hb dL_law_1493 (lv_at hl 4 rfl) ?_
  refine lv_iconst (v := 1) hx hb dL_law_1495 (by decide) ?_
  refine lv_iadd hx hb dL_law_1496 ?_
  refine ow_topi (y := 1) (by decide) ?_
  refine va_sld hx hb hX hbl hbA hS (vp_in_nI (n := 1) (N := 6) (by decide) (by decide)) dL_law_1497 ?_
  refine ow_topi (y := xs 1) (congrArg xs (by decide)) ?_
  refine lv_aload_n hx hb dL_law_1498 rfl (lv_at hl 3 rfl) ?_
  have hPc := hP.sub (ws' := [(x, .inr (14, [.ref (u 0), .ref (u 1), .ref (u 2), .ref (u 3), .ref (u 4), .ref (u 5), .ref (u 6), .ref (u 7), .ref (u 8), .ref (u 9), .ref (u 10), .ref (u 11), .ref (u 12), .ref (u 13), .ref (u 14), .ref (u 15), .ref (u 16), .ref (u 17), .ref (u 18)])), ((u 2), .inr (6, [.ref (u 27), .ref (u 28), .ref (u 29), .ref (u 30), .int 0]))]) [0, 1] rfl
  refine vx_calli (vx_runSX (As := [.ref x, .int (xs 1), .ref qo]) (rest := []) ⟨hx, hb, hml, hown, hts⟩ (kf_L_summand l dC dI cI cB cJ cZ hG.1 x (sa 2) qo u (xs 1)) (vx_cwSW 3 hts gw_L_summand rfl rfl rfl (by decide +kernel) ⟨(Nat.le_of_ble_eq_true rfl), (Nat.le_of_ble_eq_true rfl)⟩) ⟨fun a U g mk q => by obtain ⟨q0, qP, qK, qT⟩ := q; exact ⟨q0, qP, va_K.moved (u := U) (U := U.calling g mk a) (Vm.Alike.refl U.vm) qK, qT.same rfl rfl⟩, fun U hU hW => ⟨rfl, by rw [hU]; exact hPc, va_K.moved hW.alike hK, (hG.2.2.2.2.2.1).to hS hW hU (fun q h => h.elim)⟩⟩ rfl rfl hl.1 rfl (lv_room (Nat.le_of_ble_eq_true rfl)) dL_law_1499 ⟨(Nat.le_of_ble_eq_true rfl), (Nat.le_of_ble_eq_true rfl)⟩) hS (fun q _ h => h.elim) (fun q h => h.elim) (fun q _ h => h.elim) (fun E ce q9 u9 t H1 locs1 ht hvm hp hB hz hk hS hce hcv hcl => hp.elim) (fun r7 g7 t H1 locs ht hvm hw hB hz1 hk1 hS => ?_)
  obtain rfl : r7 = 1 := hw
  have hP := hP.kept (fun k9 x9 h9 => hk1 x9.1 ((hP k9 x9 h9).lt) id)
  generalize H1 = H at hP hS ⊢
  refine W.widen (k := 695) (n := 1334214) (Nat.le_of_ble_eq_true rfl) (Nat.le_of_ble_eq_true rfl) ?_
  refine lv_istore (lv' := [(5, .int 1), (0, .ref b), (1, .ref x), (2, .ref y), (3, .ref qo), (4, .int 0)]) hx hb dL_law_1502 hl (by decide) rfl (fun ls hl => ?_)
  refine lv_aload_n hx hb dL_law_1504 rfl (lv_at hl 3 rfl) ?_
  refine lv_aload_n hx hb dL_law_1505 rfl (lv_at hl 1 rfl) ?_
  refine lv_iload hx hb dL_law_1506 (lv_at hl 5 rfl) ?_
  refine lv_iconst (v := 1) hx hb dL_law_1508 (by decide) ?_
  refine lv_iadd hx hb dL_law_1509 ?_
  refine ow_topi (y := 1) (by decide) ?_
  refine va_sld hx hb hX hbl hbA hS (vp_in_nI (n := 1) (N := 6) (by decide) (by decide)) dL_law_1510 ?_
  refine ow_topi (y := xs 1) (congrArg xs (by decide)) ?_
  have hPc := hP.sub (ws' := [(y, .inr (16, v.1))]) [2] rfl
  have hDc := hD.sub (ws' := [(y, .inr (16, v.1))]) [2] (by decide) rfl
  have hFc := va_free (wc := [(y, .inr (16, v.1))]) hD hS hA [2] rfl
  refine va_calli (va_runV (As := [.int (xs 1)]) (rest := []) ⟨hx, hb, hml, hown, hts⟩ (kf_X13_summand l dC dI cI cB cJ cZ y H.size v.1 hv.1 (hv.2.at 25 rfl) (xs 1)) (cwV 1 hts gw_X13_summand rfl rfl rfl (by decide +kernel) ⟨(Nat.le_of_ble_eq_true rfl), (Nat.le_of_ble_eq_true rfl)⟩) ⟨fun a U g mk q => by obtain ⟨q0, q1, qP, qK, qD⟩ := q; exact ⟨q0, q1, qP, va_K.moved (u := U) (U := U.calling g mk a) (Vm.Alike.refl U.vm) qK, qD⟩, va_recv hK hPc (ci := 16) (q0 := 0) rfl rfl, fun U hU hW => ⟨rfl, by rw [hU], by rw [hU]; exact hPc, va_K.moved hW.alike hK, hDc.weaken (fun _ _ _ _ => trivial)⟩⟩ rfl rfl hl.1 rfl (lv_room (Nat.le_of_ble_eq_true rfl)) dL_law_1511 ⟨(Nat.le_of_ble_eq_true rfl), (Nat.le_of_ble_eq_true rfl)⟩) hS (fun q _ h => hFc q h) hFc (fun r9 g9 t H1 locs ht hvm hw hB hz1 hk1 hS => ?_)
  obtain ⟨hP1, hD1⟩ := hB
  rw [ht] at hP1
  obtain ⟨hP, hD⟩ := va_join (wr := [(x, .inr (14, [.ref (u 0), .ref (u 1), .ref (u 2), .ref (u 3), .ref (u 4), .ref (u 5), .ref (u 6), .ref (u 7), .ref (u 8), .ref (u 9), .ref (u 10), .ref (u 11), .ref (u 12), .ref (u 13), .ref (u 14), .ref (u 15), .ref (u 16), .ref (u 17), .ref (u 18)])), ((u 2), .inr (6, [.ref (u 27), .ref (u 28), .ref (u 29), .ref (u 30), .int 0])), (qo, .inl (cJ, 1, .inr (.inl (fun _ => 0))))]) (w1 := [(y, .inr (16, g9))]) hP hD [2] [0, 1, 3] rfl rfl (by decide) (by decide) hk1 hFc hP1 hD1
  generalize H1 = H at hP hS ⊢
  have hP : va_P (dC, dI) vwCl [(x, .inr (14, [.ref (u 0), .ref (u 1), .ref (u 2), .ref (u 3), .ref (u 4), .ref (u 5), .ref (u 6), .ref (u 7), .ref (u 8), .ref (u 9), .ref (u 10), .ref (u 11), .ref (u 12), .ref (u 13), .ref (u 14), .ref (u 15), .ref (u 16), .ref (u 17), .ref (u 18)])), ((u 2), .inr (6, [.ref (u 27), .ref (u 28), .ref (u 29), .ref (u 30), .int 0])), (qo, .inl (cJ, 1, .inr (.inl (fun _ => 0)))), (y, .inr (16, g9))] H := hP
  have hD : va_D (fun q : Nat => s.heap.size ≤ q) [(x, .inr (14, [.ref (u 0), .ref (u 1), .ref (u 2), .ref (u 3), .ref (u 4), .ref (u 5), .ref (u 6), .ref (u 7), .ref (u 8), .ref (u 9), .ref (u 10), .ref (u 11), .ref (u 12), .ref (u 13), .ref (u 14), .ref (u 15), .ref (u 16), .ref (u 17), .ref (u 18)])), ((u 2), .inr (6, [.ref (u 27), .ref (u 28), .ref (u 29), .ref (u 30), .int 0])), (qo, .inl (cJ, 1, .inr (.inl (fun _ => 0)))), (y, .inr (16, g9))] := hD
  obtain ⟨hr9, hg0⟩ := hw
  subst hr9
  refine lv_istore (lv' := [(6, .int 0), (5, .int 1), (0, .ref b), (1, .ref x), (2, .ref y), (3, .ref qo), (4, .int 0)]) hx hb dL_law_1514 hl (by decide) rfl (fun ls hl => ?_)
  refine lv_aload_n hx hb dL_law_1516 rfl (lv_at hl 4 rfl) ?_
  have hPc := hP.sub (ws' := [(y, .inr (16, g9))]) [3] rfl
  refine va_calli (va_runV (As := []) (rest := []) ⟨hx, hb, hml, hown, hts⟩ (kf_X13_thrownN l dC dI cI cB cJ cZ y g9 1 hg0) (cwV 0 hts gw_X13_thrown rfl rfl rfl (by decide +kernel) ⟨(Nat.le_of_ble_eq_true rfl), (Nat.le_of_ble_eq_true rfl)⟩) ⟨fun a U g mk q => by obtain ⟨q0, qP, qK⟩ := q; exact ⟨q0, qP, va_K.moved (u := U) (U := U.calling g mk a) (Vm.Alike.refl U.vm) qK⟩, va_recv hK hPc (ci := 16) (q0 := 0) rfl rfl, fun U hU hW => ⟨rfl, by rw [hU]; exact hPc, va_K.moved hW.alike hK⟩⟩ rfl rfl hl.1 rfl (lv_room (Nat.le_of_ble_eq_true rfl)) dL_law_1517 ⟨(Nat.le_of_ble_eq_true rfl), (Nat.le_of_ble_eq_true rfl)⟩) hS (fun q _ h => h.elim) (fun q h => h.elim) (fun r8 un t H1 locs ht hvm hw8 hB hz1 hk1 hS => ?_)
  obtain rfl : r8 = 1 := hw8
  have hP := hP.kept (fun k9 x9 h9 => hk1 x9.1 ((hP k9 x9 h9).lt) id)
  generalize H1 = H at hP hS ⊢
  refine lv_iload hx hb dL_law_1520 (lv_at hl 1 rfl) ?_
  refine lv_icmp_eq (tgt := 1527) hx hb dL_law_1522 (by decide) (fun _ => ?_) (fun c9 => absurd (rfl) c9)
  refine lv_iload hx hb dL_law_1527 (lv_at hl 1 rfl) ?_
  refine lv_if_ne (tgt := 1544) hx hb dL_law_1529 (by decide) (fun _ => ?_) (fun c9 => absurd c9 (by decide))
  refine lv_goto (tgt := 2616) hx hb dL_law_1544 (by decide) ?_
  exact lc_fin C0 hS (lv_sub hl [2, 6] rfl) (Nat.le_of_ble_eq_true rfl) (Nat.le_of_ble_eq_true rfl)
theorem dL_law_1547 : decode cL_law 1547 = .ok (.aload_n 1, 1) := by decide +kernel
theorem dL_law_1548 : decode cL_law 1548 = .ok (.aload_n 0, 1) := by decide +kernel
theorem dL_law_1549 : decode cL_law 1549 = .ok (.iload 4, 2) := by decide +kernel
theorem dL_law_1551 : decode cL_law 1551 = .ok (.iconst 1, 1) := by decide +kernel
theorem dL_law_1552 : decode cL_law 1552 = .ok (.iadd, 1) := by decide +kernel
theorem dL_law_1553 : decode cL_law 1553 = .ok (.iaload, 1) := by decide +kernel
theorem dL_law_1554 : decode cL_law 1554 = .ok (.aload_n 0, 1) := by decide +kernel
theorem dL_law_1555 : decode cL_law 1555 = .ok (.iload 4, 2) := by decide +kernel
theorem dL_law_1557 : decode cL_law 1557 = .ok (.iconst 2, 1) := by decide +kernel
theorem dL_law_1558 : decode cL_law 1558 = .ok (.iadd, 1) := by decide +kernel
theorem dL_law_1559 : decode cL_law 1559 = .ok (.iaload, 1) := by decide +kernel
theorem dL_law_1560 : decode cL_law 1560 = .ok (.aload_n 3, 1) := by decide +kernel
theorem dL_law_1561 : decode cL_law 1561 = .ok (.invokestatic 214, 3) := by decide +kernel
theorem dL_law_1564 : decode cL_law 1564 = .ok (.istore 5, 2) := by decide +kernel
theorem dL_law_1566 : decode cL_law 1566 = .ok (.aload_n 2, 1) := by decide +kernel
theorem dL_law_1567 : decode cL_law 1567 = .ok (.aload_n 0, 1) := by decide +kernel
theorem dL_law_1568 : decode cL_law 1568 = .ok (.iload 4, 2) := by decide +kernel
theorem dL_law_1570 : decode cL_law 1570 = .ok (.iconst 1, 1) := by decide +kernel
theorem dL_law_1571 : decode cL_law 1571 = .ok (.iadd, 1) := by decide +kernel
theorem dL_law_1572 : decode cL_law 1572 = .ok (.iaload, 1) := by decide +kernel
theorem dL_law_1573 : decode cL_law 1573 = .ok (.aload_n 0, 1) := by decide +kernel
theorem dL_law_1574 : decode cL_law 1574 = .ok (.iload 4, 2) := by decide +kernel
theorem dL_law_1576 : decode cL_law 1576 = .ok (.iconst 2, 1) := by decide +kernel
theorem dL_law_1577 : decode cL_law 1577 = .ok (.iadd, 1) := by decide +kernel
theorem dL_law_1578 : decode cL_law 1578 = .ok (.iaload, 1) := by decide +kernel
theorem dL_law_1579 : decode cL_law 1579 = .ok (.invokevirtual 216, 3) := by decide +kernel
theorem dL_law_1582 : decode cL_law 1582 = .ok (.istore 6, 2) := by decide +kernel
theorem dL_law_1584 : decode cL_law 1584 = .ok (.aload_n 2, 1) := by decide +kernel
theorem dL_law_1585 : decode cL_law 1585 = .ok (.invokevirtual 137, 3) := by decide +kernel
theorem dL_law_1588 : decode cL_law 1588 = .ok (.iload 5, 2) := by decide +kernel
theorem dL_law_1590 : decode cL_law 1590 = .ok (.if_icmp .eq 5, 3) := by decide +kernel
theorem dL_law_1593 : decode cL_law 1593 = .ok (.iconst 0, 1) := by decide +kernel
theorem dL_law_1594 : decode cL_law 1594 = .ok (.ireturn, 1) := by decide +kernel
theorem dL_law_1595 : decode cL_law 1595 = .ok (.iload 5, 2) := by decide +kernel
theorem dL_law_1597 : decode cL_law 1597 = .ok (.ifCond .ne 15, 3) := by decide +kernel
theorem dL_law_1600 : decode cL_law 1600 = .ok (.aload_n 3, 1) := by decide +kernel
theorem dL_law_1601 : decode cL_law 1601 = .ok (.iconst 0, 1) := by decide +kernel
theorem dL_law_1602 : decode cL_law 1602 = .ok (.laload, 1) := by decide +kernel
theorem dL_law_1603 : decode cL_law 1603 = .ok (.iload 6, 2) := by decide +kernel
theorem dL_law_1605 : decode cL_law 1605 = .ok (.i2l, 1) := by decide +kernel
theorem dL_law_1606 : decode cL_law 1606 = .ok (.lcmp, 1) := by decide +kernel
theorem dL_law_1607 : decode cL_law 1607 = .ok (.ifCond .eq 5, 3) := by decide +kernel
theorem dL_law_1610 : decode cL_law 1610 = .ok (.iconst 0, 1) := by decide +kernel
theorem dL_law_1611 : decode cL_law 1611 = .ok (.ireturn, 1) := by decide +kernel
theorem dL_law_1612 : decode cL_law 1612 = .ok (.goto 1004, 3) := by decide +kernel
set_option maxHeartbeats 4000000 in
set_option maxRecDepth 100000 in
theorem lc_conway {p : Program} {l : Launch} {e : Env} {s : State} {m : MethodId} {below : List Frame} {meth : Method} {c : Code} {b : Nat} {xs : Nat → Int32} {dC : Nat → ClassId} {dI : Nat → Nat → Nat} {cI cB cJ cZ : ClassId} {sa : Nat → Nat} (C0 : lw_At p s m meth c b 6 xs) (hG : ow_LG l s dC dI cI cB cJ cZ sa) {x y qo : Nat} {u : Nat → Nat} {v : List Value × (Nat → Nat)} (hv : kn_X13_init v) {H : Heap} {locs : List Loc} {ls : Array Slot} (hP : va_P (dC, dI) vwCl (wd_X11_init cI cB cJ x u ++ (wd_X13_init cI cB y v ++ [(qo, .inl (cJ, 1, .inr (.inl (fun _ => 0))))])) H) (hD : va_D (fun q : Nat => s.heap.size ≤ q) (wd_X11_init cI cB cJ x u ++ (wd_X13_init cI cB y v ++ [(qo, .inl (cJ, 1, .inr (.inl (fun _ => 0))))]))) (hS : va_S (fun q : Nat => s.heap.size ≤ q) s.heap H locs) (hl : lv_has ls 8 [(0, .ref b), (1, .ref x), (2, .ref y), (3, .ref qo), (4, .int 0)]) : W p l e room_1 s m #[Value.ref b] below meth c H locs 694 1334208 (lw_Z below #[Value.ref b] s) (F0 m 1547 ls []) := by
  obtain ⟨hx, hb, hr, hml, hown, hts, hX, hbl, hlocks, hgv⟩ := id C0
  have hown : s.vm.findClass RL = some m.cls := hown
  have hA : ∀ q : Nat, s.heap.size ≤ q → (fun q : Nat => s.heap.size ≤ q) q := fun _ h => h
  have hbA : ¬ (fun q : Nat => s.heap.size ≤ q) b := Nat.not_le.mpr hbl
  have hK := hG.2.1
  have hP := hP.sub (ws' := [(x, .inr (14, [.ref (u 0), .ref (u 1), .ref (u 2), .ref (u 3), .ref (u 4), .ref (u 5), .ref (u 6), .ref (u 7), .ref (u 8), .ref (u 9), .ref (u 10), .ref (u 11), .ref (u 12), .ref (u 13), .ref (u 14), .ref (u 15), .ref (u 16), .ref (u 17), .ref (u 18)])), ((u 0), .inr (6, [.ref (u 19), .ref (u 20), .ref (u 21), .ref (u 22), .int 0])), ((u 20), .inl (cB, 40, .inl (fun _ => 0))), (y, .inr (16, v.1)), ((v.2 1), .inl (cI, 1280, .inl (fun _ => 0))), (qo, .inl (cJ, 1, .inr (.inl (fun _ => 0))))]) [0, 1, 3, 60, 62, 71] rfl
  have hD := hD.sub (ws' := [(x, .inr (14, [.ref (u 0), .ref (u 1), .ref (u 2), .ref (u 3), .ref (u 4), .ref (u 5), .ref (u 6), .ref (u 7), .ref (u 8), .ref (u 9), .ref (u 10), .ref (u 11), .ref (u 12), .ref (u 13), .ref (u 14), .ref (u 15), .ref (u 16), .ref (u 17), .ref (u 18)])), ((u 0), .inr (6, [.ref (u 19), .ref (u 20), .ref (u 21), .ref (u 22), .int 0])), ((u 20), .inl (cB, 40, .inl (fun _ => 0))), (y, .inr (16, v.1)), ((v.2 1), .inl (cI, 1280, .inl (fun _ => 0))), (qo, .inl (cJ, 1, .inr (.inl (fun _ => 0))))]) [0, 1, 3, 60, 62, 71] (by decide) rfl
  refine lv_aload_n hx hb dL_law_1547 rfl (lv_at hl 1 rfl) ?_
  refine lv_aload_n hx hb dL_law_1548 rfl (lv_at hl 0 rfl) ?_
  refine lv_iload hx hb dL_law_1549 (lv_at hl 4 rfl) ?_
  refine lv_iconst (v := 1) hx hb dL_law_1551 (by decide) ?_
  refine lv_iadd hx hb dL_law_1552 ?_
  refine ow_topi (y := 1) (by decide) ?_
  refine va_sld hx hb hX hbl hbA hS (vp_in_nI (n := 1) (N := 6) (by decide) (by decide)) dL_law_1553 ?_
  refine ow_topi (y := xs 1) (congrArg xs (by decide)) ?_
  refine lv_aload_n hx hb dL_law_1554 rfl (lv_at hl 0 rfl) ?_
  refine lv_iload hx hb dL_law_1555 (lv_at hl 4 rfl) ?_
  refine lv_iconst (v := 2) hx hb dL_law_1557 (by decide) ?_
  refine lv_iadd hx hb dL_law_1558 ?_
  refine ow_topi (y := 2) (by decide) ?_
  refine va_sld hx hb hX hbl hbA hS (vp_in_nI (n := 2) (N := 6) (by decide) (by decide)) dL_law_1559 ?_
  refine ow_topi (y := xs 2) (congrArg xs (by decide)) ?_
  refine lv_aload_n hx hb dL_law_1560 rfl (lv_at hl 3 rfl) ?_
  have hPc := hP.sub (ws' := [(x, .inr (14, [.ref (u 0), .ref (u 1), .ref (u 2), .ref (u 3), .ref (u 4), .ref (u 5), .ref (u 6), .ref (u 7), .ref (u 8), .ref (u 9), .ref (u 10), .ref (u 11), .ref (u 12), .ref (u 13), .ref (u 14), .ref (u 15), .ref (u 16), .ref (u 17), .ref (u 18)])), ((u 0), .inr (6, [.ref (u 19), .ref (u 20), .ref (u 21), .ref (u 22), .int 0])), ((u 20), .inl (cB, 40, .inl (fun _ => 0)))]) [0, 1, 2] rfl
  refine vx_calli (vx_runSX (As := [.ref x, .int (xs 1), .int (xs 2), .ref qo]) (rest := []) ⟨hx, hb, hml, hown, hts⟩ (kf_L_conway l dC dI cI cB cJ cZ hG.1 x (sa 0) qo u (xs 1) (xs 2)) (vx_cwSW 4 hts gw_L_conway rfl rfl rfl (by decide +kernel) ⟨(Nat.le_of_ble_eq_true rfl), (Nat.le_of_ble_eq_true rfl)⟩) ⟨fun a U g mk q => by obtain ⟨q0, qP, qK, qT⟩ := q; exact ⟨q0, qP, va_K.moved (u := U) (U := U.calling g mk a) (Vm.Alike.refl U.vm) qK, qT.same rfl rfl⟩, fun U hU hW => ⟨rfl, by rw [hU]; exact hPc, va_K.moved hW.alike hK, (hG.2.2.2.1).to hS hW hU (fun q h => h.elim)⟩⟩ rfl rfl hl.1 rfl (lv_room (Nat.le_of_ble_eq_true rfl)) dL_law_1561 ⟨(Nat.le_of_ble_eq_true rfl), (Nat.le_of_ble_eq_true rfl)⟩) hS (fun q _ h => h.elim) (fun q h => h.elim) (fun q _ h => h.elim) (fun E ce q9 u9 t H1 locs1 ht hvm hp hB hz hk hS hce hcv hcl => hp.elim) (fun r7 g7 t H1 locs ht hvm hw hB hz1 hk1 hS => ?_)
  obtain rfl : r7 = 1 := hw
  have hP := hP.kept (fun k9 x9 h9 => hk1 x9.1 ((hP k9 x9 h9).lt) id)
  generalize H1 = H at hP hS ⊢
  refine W.widen (k := 695) (n := 1334214) (Nat.le_of_ble_eq_true rfl) (Nat.le_of_ble_eq_true rfl) ?_
  refine lv_istore (lv' := [(5, .int 1), (0, .ref b), (1, .ref x), (2, .ref y), (3, .ref qo), (4, .int 0)]) hx hb dL_law_1564 hl (by decide) rfl (fun ls hl => ?_)
  refine lv_aload_n hx hb dL_law_1566 rfl (lv_at hl 3 rfl) ?_
  refine lv_aload_n hx hb dL_law_1567 rfl (lv_at hl 1 rfl) ?_
  refine lv_iload hx hb dL_law_1568 (lv_at hl 5 rfl) ?_
  refine lv_iconst (v := 1) hx hb dL_law_1570 (by decide) ?_
  refine lv_iadd hx hb dL_law_1571 ?_
  refine ow_topi (y := 1) (by decide) ?_
  refine va_sld hx hb hX hbl hbA hS (vp_in_nI (n := 1) (N := 6) (by decide) (by decide)) dL_law_1572 ?_
  refine ow_topi (y := xs 1) (congrArg xs (by decide)) ?_
  refine lv_aload_n hx hb dL_law_1573 rfl (lv_at hl 1 rfl) ?_
  refine lv_iload hx hb dL_law_1574 (lv_at hl 5 rfl) ?_
  refine lv_iconst (v := 2) hx hb dL_law_1576 (by decide) ?_
  refine lv_iadd hx hb dL_law_1577 ?_
  refine ow_topi (y := 2) (by decide) ?_
  refine va_sld hx hb hX hbl hbA hS (vp_in_nI (n := 2) (N := 6) (by decide) (by decide)) dL_law_1578 ?_
  refine ow_topi (y := xs 2) (congrArg xs (by decide)) ?_
  have hPc := hP.sub (ws' := [(y, .inr (16, v.1)), ((v.2 1), .inl (cI, 1280, .inl (fun _ => 0)))]) [3, 4] rfl
  have hDc := hD.sub (ws' := [(y, .inr (16, v.1)), ((v.2 1), .inl (cI, 1280, .inl (fun _ => 0)))]) [3, 4] (by decide) rfl
  have hFc := va_free (wc := [(y, .inr (16, v.1)), ((v.2 1), .inl (cI, 1280, .inl (fun _ => 0)))]) hD hS hA [3, 4] rfl
  refine va_calli (va_runV (As := [.int (xs 1), .int (xs 2)]) (rest := []) ⟨hx, hb, hml, hown, hts⟩ (kf_X13_conway l dC dI cI cB cJ cZ y (v.2 1) H.size v.1 hv.1 (hv.2.at 20 rfl) (xs 1) (xs 2)) (cwV 2 hts gw_X13_conway rfl rfl rfl (by decide +kernel) ⟨(Nat.le_of_ble_eq_true rfl), (Nat.le_of_ble_eq_true rfl)⟩) ⟨fun a U g mk q => by obtain ⟨q0, q1, qP, qK, qD⟩ := q; exact ⟨q0, q1, qP, va_K.moved (u := U) (U := U.calling g mk a) (Vm.Alike.refl U.vm) qK, qD⟩, va_recv hK hPc (ci := 16) (q0 := 0) rfl rfl, fun U hU hW => ⟨rfl, by rw [hU], by rw [hU]; exact hPc, va_K.moved hW.alike hK, hDc.weaken (fun _ _ _ _ => trivial)⟩⟩ rfl rfl hl.1 rfl (lv_room (Nat.le_of_ble_eq_true rfl)) dL_law_1579 ⟨(Nat.le_of_ble_eq_true rfl), (Nat.le_of_ble_eq_true rfl)⟩) hS (fun q _ h => hFc q h) hFc (fun r9 g9 t H1 locs ht hvm hw hB hz1 hk1 hS => ?_)
  obtain ⟨hP1, hD1⟩ := hB
  rw [ht] at hP1
  obtain ⟨hP, hD⟩ := va_join (wr := [(x, .inr (14, [.ref (u 0), .ref (u 1), .ref (u 2), .ref (u 3), .ref (u 4), .ref (u 5), .ref (u 6), .ref (u 7), .ref (u 8), .ref (u 9), .ref (u 10), .ref (u 11), .ref (u 12), .ref (u 13), .ref (u 14), .ref (u 15), .ref (u 16), .ref (u 17), .ref (u 18)])), ((u 0), .inr (6, [.ref (u 19), .ref (u 20), .ref (u 21), .ref (u 22), .int 0])), ((u 20), .inl (cB, 40, .inl (fun _ => 0))), (qo, .inl (cJ, 1, .inr (.inl (fun _ => 0))))]) (w1 := [(y, .inr (16, g9))]) hP hD [3, 4] [0, 1, 2, 5] rfl rfl (by decide) (by decide) hk1 hFc hP1 hD1
  generalize H1 = H at hP hS ⊢
  have hP : va_P (dC, dI) vwCl [(x, .inr (14, [.ref (u 0), .ref (u 1), .ref (u 2), .ref (u 3), .ref (u 4), .ref (u 5), .ref (u 6), .ref (u 7), .ref (u 8), .ref (u 9), .ref (u 10), .ref (u 11), .ref (u 12), .ref (u 13), .ref (u 14), .ref (u 15), .ref (u 16), .ref (u 17), .ref (u 18)])), ((u 0), .inr (6, [.ref (u 19), .ref (u 20), .ref (u 21), .ref (u 22), .int 0])), ((u 20), .inl (cB, 40, .inl (fun _ => 0))), (qo, .inl (cJ, 1, .inr (.inl (fun _ => 0)))), (y, .inr (16, g9))] H := hP
  have hD : va_D (fun q : Nat => s.heap.size ≤ q) [(x, .inr (14, [.ref (u 0), .ref (u 1), .ref (u 2), .ref (u 3), .ref (u 4), .ref (u 5), .ref (u 6), .ref (u 7), .ref (u 8), .ref (u 9), .ref (u 10), .ref (u 11), .ref (u 12), .ref (u 13), .ref (u 14), .ref (u 15), .ref (u 16), .ref (u 17), .ref (u 18)])), ((u 0), .inr (6, [.ref (u 19), .ref (u 20), .ref (u 21), .ref (u 22), .int 0])), ((u 20), .inl (cB, 40, .inl (fun _ => 0))), (qo, .inl (cJ, 1, .inr (.inl (fun _ => 0)))), (y, .inr (16, g9))] := hD
  obtain ⟨hr9, hg0⟩ := hw
  subst hr9
  refine lv_istore (lv' := [(6, .int 0), (5, .int 1), (0, .ref b), (1, .ref x), (2, .ref y), (3, .ref qo), (4, .int 0)]) hx hb dL_law_1582 hl (by decide) rfl (fun ls hl => ?_)
  refine lv_aload_n hx hb dL_law_1584 rfl (lv_at hl 4 rfl) ?_
  have hPc := hP.sub (ws' := [(y, .inr (16, g9))]) [4] rfl
  refine va_calli (va_runV (As := []) (rest := []) ⟨hx, hb, hml, hown, hts⟩ (kf_X13_thrownN l dC dI cI cB cJ cZ y g9 1 hg0) (cwV 0 hts gw_X13_thrown rfl rfl rfl (by decide +kernel) ⟨(Nat.le_of_ble_eq_true rfl), (Nat.le_of_ble_eq_true rfl)⟩) ⟨fun a U g mk q => by obtain ⟨q0, qP, qK⟩ := q; exact ⟨q0, qP, va_K.moved (u := U) (U := U.calling g mk a) (Vm.Alike.refl U.vm) qK⟩, va_recv hK hPc (ci := 16) (q0 := 0) rfl rfl, fun U hU hW => ⟨rfl, by rw [hU]; exact hPc, va_K.moved hW.alike hK⟩⟩ rfl rfl hl.1 rfl (lv_room (Nat.le_of_ble_eq_true rfl)) dL_law_1585 ⟨(Nat.le_of_ble_eq_true rfl), (Nat.le_of_ble_eq_true rfl)⟩) hS (fun q _ h => h.elim) (fun q h => h.elim) (fun r8 un t H1 locs ht hvm hw8 hB hz1 hk1 hS => ?_)
  obtain rfl : r8 = 1 := hw8
  have hP := hP.kept (fun k9 x9 h9 => hk1 x9.1 ((hP k9 x9 h9).lt) id)
  generalize H1 = H at hP hS ⊢
  refine lv_iload hx hb dL_law_1588 (lv_at hl 1 rfl) ?_
  refine lv_icmp_eq (tgt := 1595) hx hb dL_law_1590 (by decide) (fun _ => ?_) (fun c9 => absurd (rfl) c9)
  refine lv_iload hx hb dL_law_1595 (lv_at hl 1 rfl) ?_
  refine lv_if_ne (tgt := 1612) hx hb dL_law_1597 (by decide) (fun _ => ?_) (fun c9 => absurd c9 (by decide))
  refine lv_goto (tgt := 2616) hx hb dL_law_1612 (by decide) ?_
  exact lc_fin C0 hS (lv_sub hl [2, 6] rfl) (Nat.le_of_ble_eq_true rfl) (Nat.le_of_ble_eq_true rfl)
theorem dL_law_1615 : decode cL_law 1615 = .ok (.aload_n 1, 1) := by decide +kernel
theorem dL_law_1616 : decode cL_law 1616 = .ok (.aload_n 0, 1) := by decide +kernel
theorem dL_law_1617 : decode cL_law 1617 = .ok (.iload 4, 2) := by decide +kernel
theorem dL_law_1619 : decode cL_law 1619 = .ok (.iconst 1, 1) := by decide +kernel
theorem dL_law_1620 : decode cL_law 1620 = .ok (.iadd, 1) := by decide +kernel
theorem dL_law_1621 : decode cL_law 1621 = .ok (.iaload, 1) := by decide +kernel
theorem dL_law_1622 : decode cL_law 1622 = .ok (.aload_n 0, 1) := by decide +kernel
theorem dL_law_1623 : decode cL_law 1623 = .ok (.iload 4, 2) := by decide +kernel
theorem dL_law_1625 : decode cL_law 1625 = .ok (.iconst 2, 1) := by decide +kernel
theorem dL_law_1626 : decode cL_law 1626 = .ok (.iadd, 1) := by decide +kernel
theorem dL_law_1627 : decode cL_law 1627 = .ok (.iaload, 1) := by decide +kernel
theorem dL_law_1628 : decode cL_law 1628 = .ok (.aload_n 3, 1) := by decide +kernel
theorem dL_law_1629 : decode cL_law 1629 = .ok (.invokestatic 217, 3) := by decide +kernel
theorem dL_law_1632 : decode cL_law 1632 = .ok (.istore 5, 2) := by decide +kernel
theorem dL_law_1634 : decode cL_law 1634 = .ok (.aload_n 2, 1) := by decide +kernel
theorem dL_law_1635 : decode cL_law 1635 = .ok (.aload_n 0, 1) := by decide +kernel
theorem dL_law_1636 : decode cL_law 1636 = .ok (.iload 4, 2) := by decide +kernel
theorem dL_law_1638 : decode cL_law 1638 = .ok (.iconst 1, 1) := by decide +kernel
theorem dL_law_1639 : decode cL_law 1639 = .ok (.iadd, 1) := by decide +kernel
theorem dL_law_1640 : decode cL_law 1640 = .ok (.iaload, 1) := by decide +kernel
theorem dL_law_1641 : decode cL_law 1641 = .ok (.aload_n 0, 1) := by decide +kernel
theorem dL_law_1642 : decode cL_law 1642 = .ok (.iload 4, 2) := by decide +kernel
theorem dL_law_1644 : decode cL_law 1644 = .ok (.iconst 2, 1) := by decide +kernel
theorem dL_law_1645 : decode cL_law 1645 = .ok (.iadd, 1) := by decide +kernel
theorem dL_law_1646 : decode cL_law 1646 = .ok (.iaload, 1) := by decide +kernel
theorem dL_law_1647 : decode cL_law 1647 = .ok (.invokevirtual 219, 3) := by decide +kernel
theorem dL_law_1650 : decode cL_law 1650 = .ok (.istore 6, 2) := by decide +kernel
theorem dL_law_1652 : decode cL_law 1652 = .ok (.aload_n 2, 1) := by decide +kernel
theorem dL_law_1653 : decode cL_law 1653 = .ok (.invokevirtual 137, 3) := by decide +kernel
theorem dL_law_1656 : decode cL_law 1656 = .ok (.iload 5, 2) := by decide +kernel
theorem dL_law_1658 : decode cL_law 1658 = .ok (.if_icmp .eq 5, 3) := by decide +kernel
theorem dL_law_1661 : decode cL_law 1661 = .ok (.iconst 0, 1) := by decide +kernel
theorem dL_law_1662 : decode cL_law 1662 = .ok (.ireturn, 1) := by decide +kernel
theorem dL_law_1663 : decode cL_law 1663 = .ok (.iload 5, 2) := by decide +kernel
theorem dL_law_1665 : decode cL_law 1665 = .ok (.ifCond .ne 15, 3) := by decide +kernel
theorem dL_law_1668 : decode cL_law 1668 = .ok (.aload_n 3, 1) := by decide +kernel
theorem dL_law_1669 : decode cL_law 1669 = .ok (.iconst 0, 1) := by decide +kernel
theorem dL_law_1670 : decode cL_law 1670 = .ok (.laload, 1) := by decide +kernel
theorem dL_law_1671 : decode cL_law 1671 = .ok (.iload 6, 2) := by decide +kernel
theorem dL_law_1673 : decode cL_law 1673 = .ok (.i2l, 1) := by decide +kernel
theorem dL_law_1674 : decode cL_law 1674 = .ok (.lcmp, 1) := by decide +kernel
theorem dL_law_1675 : decode cL_law 1675 = .ok (.ifCond .eq 5, 3) := by decide +kernel
theorem dL_law_1678 : decode cL_law 1678 = .ok (.iconst 0, 1) := by decide +kernel
theorem dL_law_1679 : decode cL_law 1679 = .ok (.ireturn, 1) := by decide +kernel
theorem dL_law_1680 : decode cL_law 1680 = .ok (.goto 936, 3) := by decide +kernel
set_option maxHeartbeats 4000000 in
set_option maxRecDepth 100000 in
theorem lc_jones {p : Program} {l : Launch} {e : Env} {s : State} {m : MethodId} {below : List Frame} {meth : Method} {c : Code} {b : Nat} {xs : Nat → Int32} {dC : Nat → ClassId} {dI : Nat → Nat → Nat} {cI cB cJ cZ : ClassId} {sa : Nat → Nat} (C0 : lw_At p s m meth c b 6 xs) (hG : ow_LG l s dC dI cI cB cJ cZ sa) {x y qo : Nat} {u : Nat → Nat} {v : List Value × (Nat → Nat)} (hv : kn_X13_init v) {H : Heap} {locs : List Loc} {ls : Array Slot} (hP : va_P (dC, dI) vwCl (wd_X11_init cI cB cJ x u ++ (wd_X13_init cI cB y v ++ [(qo, .inl (cJ, 1, .inr (.inl (fun _ => 0))))])) H) (hD : va_D (fun q : Nat => s.heap.size ≤ q) (wd_X11_init cI cB cJ x u ++ (wd_X13_init cI cB y v ++ [(qo, .inl (cJ, 1, .inr (.inl (fun _ => 0))))]))) (hS : va_S (fun q : Nat => s.heap.size ≤ q) s.heap H locs) (hl : lv_has ls 8 [(0, .ref b), (1, .ref x), (2, .ref y), (3, .ref qo), (4, .int 0)]) : W p l e room_1 s m #[Value.ref b] below meth c H locs 694 1334208 (lw_Z below #[Value.ref b] s) (F0 m 1615 ls []) := by
  obtain ⟨hx, hb, hr, hml, hown, hts, hX, hbl, hlocks, hgv⟩ := id C0
  have hown : s.vm.findClass RL = some m.cls := hown
  have hA : ∀ q : Nat, s.heap.size ≤ q → (fun q : Nat => s.heap.size ≤ q) q := fun _ h => h
  have hbA : ¬ (fun q : Nat => s.heap.size ≤ q) b := Nat.not_le.mpr hbl
  have hK := hG.2.1
  have hP := hP.sub (ws' := [(x, .inr (14, [.ref (u 0), .ref (u 1), .ref (u 2), .ref (u 3), .ref (u 4), .ref (u 5), .ref (u 6), .ref (u 7), .ref (u 8), .ref (u 9), .ref (u 10), .ref (u 11), .ref (u 12), .ref (u 13), .ref (u 14), .ref (u 15), .ref (u 16), .ref (u 17), .ref (u 18)])), ((u 0), .inr (6, [.ref (u 19), .ref (u 20), .ref (u 21), .ref (u 22), .int 0])), ((u 20), .inl (cB, 40, .inl (fun _ => 0))), (y, .inr (16, v.1)), ((v.2 1), .inl (cI, 1280, .inl (fun _ => 0))), (qo, .inl (cJ, 1, .inr (.inl (fun _ => 0))))]) [0, 1, 3, 60, 62, 71] rfl
  have hD := hD.sub (ws' := [(x, .inr (14, [.ref (u 0), .ref (u 1), .ref (u 2), .ref (u 3), .ref (u 4), .ref (u 5), .ref (u 6), .ref (u 7), .ref (u 8), .ref (u 9), .ref (u 10), .ref (u 11), .ref (u 12), .ref (u 13), .ref (u 14), .ref (u 15), .ref (u 16), .ref (u 17), .ref (u 18)])), ((u 0), .inr (6, [.ref (u 19), .ref (u 20), .ref (u 21), .ref (u 22), .int 0])), ((u 20), .inl (cB, 40, .inl (fun _ => 0))), (y, .inr (16, v.1)), ((v.2 1), .inl (cI, 1280, .inl (fun _ => 0))), (qo, .inl (cJ, 1, .inr (.inl (fun _ => 0))))]) [0, 1, 3, 60, 62, 71] (by decide) rfl
  refine lv_aload_n hx hb dL_law_1615 rfl (lv_at hl 1 rfl) ?_
  refine lv_aload_n hx hb dL_law_1616 rfl (lv_at hl 0 rfl) ?_
  refine lv_iload hx hb dL_law_1617 (lv_at hl 4 rfl) ?_
  refine lv_iconst (v := 1) hx hb dL_law_1619 (by decide) ?_
  refine lv_iadd hx hb dL_law_1620 ?_
  refine ow_topi (y := 1) (by decide) ?_
  refine va_sld hx hb hX hbl hbA hS (vp_in_nI (n := 1) (N := 6) (by decide) (by decide)) dL_law_1621 ?_
  refine ow_topi (y := xs 1) (congrArg xs (by decide)) ?_
  refine lv_aload_n hx hb dL_law_1622 rfl (lv_at hl 0 rfl) ?_
  refine lv_iload hx hb dL_law_1623 (lv_at hl 4 rfl) ?_
  refine lv_iconst (v := 2) hx hb dL_law_1625 (by decide) ?_
  refine lv_iadd hx hb dL_law_1626 ?_
  refine ow_topi (y := 2) (by decide) ?_
  refine va_sld hx hb hX hbl hbA hS (vp_in_nI (n := 2) (N := 6) (by decide) (by decide)) dL_law_1627 ?_
  refine ow_topi (y := xs 2) (congrArg xs (by decide)) ?_
  refine lv_aload_n hx hb dL_law_1628 rfl (lv_at hl 3 rfl) ?_
  have hPc := hP.sub (ws' := [(x, .inr (14, [.ref (u 0), .ref (u 1), .ref (u 2), .ref (u 3), .ref (u 4), .ref (u 5), .ref (u 6), .ref (u 7), .ref (u 8), .ref (u 9), .ref (u 10), .ref (u 11), .ref (u 12), .ref (u 13), .ref (u 14), .ref (u 15), .ref (u 16), .ref (u 17), .ref (u 18)])), ((u 0), .inr (6, [.ref (u 19), .ref (u 20), .ref (u 21), .ref (u 22), .int 0])), ((u 20), .inl (cB, 40, .inl (fun _ => 0)))]) [0, 1, 2] rfl
  refine vx_calli (vx_runSX (As := [.ref x, .int (xs 1), .int (xs 2), .ref qo]) (rest := []) ⟨hx, hb, hml, hown, hts⟩ (kf_L_jones l dC dI cI cB cJ cZ hG.1 x (sa 0) qo u (xs 1) (xs 2)) (vx_cwSW 4 hts gw_L_jones rfl rfl rfl (by decide +kernel) ⟨(Nat.le_of_ble_eq_true rfl), (Nat.le_of_ble_eq_true rfl)⟩) ⟨fun a U g mk q => by obtain ⟨q0, qP, qK, qT⟩ := q; exact ⟨q0, qP, va_K.moved (u := U) (U := U.calling g mk a) (Vm.Alike.refl U.vm) qK, qT.same rfl rfl⟩, fun U hU hW => ⟨rfl, by rw [hU]; exact hPc, va_K.moved hW.alike hK, (hG.2.2.2.1).to hS hW hU (fun q h => h.elim)⟩⟩ rfl rfl hl.1 rfl (lv_room (Nat.le_of_ble_eq_true rfl)) dL_law_1629 ⟨(Nat.le_of_ble_eq_true rfl), (Nat.le_of_ble_eq_true rfl)⟩) hS (fun q _ h => h.elim) (fun q h => h.elim) (fun q _ h => h.elim) (fun E ce q9 u9 t H1 locs1 ht hvm hp hB hz hk hS hce hcv hcl => hp.elim) (fun r7 g7 t H1 locs ht hvm hw hB hz1 hk1 hS => ?_)
  obtain rfl : r7 = 1 := hw
  have hP := hP.kept (fun k9 x9 h9 => hk1 x9.1 ((hP k9 x9 h9).lt) id)
  generalize H1 = H at hP hS ⊢
  refine W.widen (k := 695) (n := 1334214) (Nat.le_of_ble_eq_true rfl) (Nat.le_of_ble_eq_true rfl) ?_
  refine lv_istore (lv' := [(5, .int 1), (0, .ref b), (1, .ref x), (2, .ref y), (3, .ref qo), (4, .int 0)]) hx hb dL_law_1632 hl (by decide) rfl (fun ls hl => ?_)
  refine lv_aload_n hx hb dL_law_1634 rfl (lv_at hl 3 rfl) ?_
  refine lv_aload_n hx hb dL_law_1635 rfl (lv_at hl 1 rfl) ?_
  refine lv_iload hx hb dL_law_1636 (lv_at hl 5 rfl) ?_
  refine lv_iconst (v := 1) hx hb dL_law_1638 (by decide) ?_
  refine lv_iadd hx hb dL_law_1639 ?_
  refine ow_topi (y := 1) (by decide) ?_
  refine va_sld hx hb hX hbl hbA hS (vp_in_nI (n := 1) (N := 6) (by decide) (by decide)) dL_law_1640 ?_
  refine ow_topi (y := xs 1) (congrArg xs (by decide)) ?_
  refine lv_aload_n hx hb dL_law_1641 rfl (lv_at hl 1 rfl) ?_
  refine lv_iload hx hb dL_law_1642 (lv_at hl 5 rfl) ?_
  refine lv_iconst (v := 2) hx hb dL_law_1644 (by decide) ?_
  refine lv_iadd hx hb dL_law_1645 ?_
  refine ow_topi (y := 2) (by decide) ?_
  refine va_sld hx hb hX hbl hbA hS (vp_in_nI (n := 2) (N := 6) (by decide) (by decide)) dL_law_1646 ?_
  refine ow_topi (y := xs 2) (congrArg xs (by decide)) ?_
  have hPc := hP.sub (ws' := [(y, .inr (16, v.1)), ((v.2 1), .inl (cI, 1280, .inl (fun _ => 0)))]) [3, 4] rfl
  have hDc := hD.sub (ws' := [(y, .inr (16, v.1)), ((v.2 1), .inl (cI, 1280, .inl (fun _ => 0)))]) [3, 4] (by decide) rfl
  have hFc := va_free (wc := [(y, .inr (16, v.1)), ((v.2 1), .inl (cI, 1280, .inl (fun _ => 0)))]) hD hS hA [3, 4] rfl
  refine va_calli (va_runV (As := [.int (xs 1), .int (xs 2)]) (rest := []) ⟨hx, hb, hml, hown, hts⟩ (kf_X13_jones l dC dI cI cB cJ cZ y (v.2 1) H.size v.1 hv.1 (hv.2.at 20 rfl) (xs 1) (xs 2)) (cwV 2 hts gw_X13_jones rfl rfl rfl (by decide +kernel) ⟨(Nat.le_of_ble_eq_true rfl), (Nat.le_of_ble_eq_true rfl)⟩) ⟨fun a U g mk q => by obtain ⟨q0, q1, qP, qK, qD⟩ := q; exact ⟨q0, q1, qP, va_K.moved (u := U) (U := U.calling g mk a) (Vm.Alike.refl U.vm) qK, qD⟩, va_recv hK hPc (ci := 16) (q0 := 0) rfl rfl, fun U hU hW => ⟨rfl, by rw [hU], by rw [hU]; exact hPc, va_K.moved hW.alike hK, hDc.weaken (fun _ _ _ _ => trivial)⟩⟩ rfl rfl hl.1 rfl (lv_room (Nat.le_of_ble_eq_true rfl)) dL_law_1647 ⟨(Nat.le_of_ble_eq_true rfl), (Nat.le_of_ble_eq_true rfl)⟩) hS (fun q _ h => hFc q h) hFc (fun r9 g9 t H1 locs ht hvm hw hB hz1 hk1 hS => ?_)
  obtain ⟨hP1, hD1⟩ := hB
  rw [ht] at hP1
  obtain ⟨hP, hD⟩ := va_join (wr := [(x, .inr (14, [.ref (u 0), .ref (u 1), .ref (u 2), .ref (u 3), .ref (u 4), .ref (u 5), .ref (u 6), .ref (u 7), .ref (u 8), .ref (u 9), .ref (u 10), .ref (u 11), .ref (u 12), .ref (u 13), .ref (u 14), .ref (u 15), .ref (u 16), .ref (u 17), .ref (u 18)])), ((u 0), .inr (6, [.ref (u 19), .ref (u 20), .ref (u 21), .ref (u 22), .int 0])), ((u 20), .inl (cB, 40, .inl (fun _ => 0))), (qo, .inl (cJ, 1, .inr (.inl (fun _ => 0))))]) (w1 := [(y, .inr (16, g9))]) hP hD [3, 4] [0, 1, 2, 5] rfl rfl (by decide) (by decide) hk1 hFc hP1 hD1
  generalize H1 = H at hP hS ⊢
  have hP : va_P (dC, dI) vwCl [(x, .inr (14, [.ref (u 0), .ref (u 1), .ref (u 2), .ref (u 3), .ref (u 4), .ref (u 5), .ref (u 6), .ref (u 7), .ref (u 8), .ref (u 9), .ref (u 10), .ref (u 11), .ref (u 12), .ref (u 13), .ref (u 14), .ref (u 15), .ref (u 16), .ref (u 17), .ref (u 18)])), ((u 0), .inr (6, [.ref (u 19), .ref (u 20), .ref (u 21), .ref (u 22), .int 0])), ((u 20), .inl (cB, 40, .inl (fun _ => 0))), (qo, .inl (cJ, 1, .inr (.inl (fun _ => 0)))), (y, .inr (16, g9))] H := hP
  have hD : va_D (fun q : Nat => s.heap.size ≤ q) [(x, .inr (14, [.ref (u 0), .ref (u 1), .ref (u 2), .ref (u 3), .ref (u 4), .ref (u 5), .ref (u 6), .ref (u 7), .ref (u 8), .ref (u 9), .ref (u 10), .ref (u 11), .ref (u 12), .ref (u 13), .ref (u 14), .ref (u 15), .ref (u 16), .ref (u 17), .ref (u 18)])), ((u 0), .inr (6, [.ref (u 19), .ref (u 20), .ref (u 21), .ref (u 22), .int 0])), ((u 20), .inl (cB, 40, .inl (fun _ => 0))), (qo, .inl (cJ, 1, .inr (.inl (fun _ => 0)))), (y, .inr (16, g9))] := hD
  obtain ⟨hr9, hg0⟩ := hw
  subst hr9
  refine lv_istore (lv' := [(6, .int 0), (5, .int 1), (0, .ref b), (1, .ref x), (2, .ref y), (3, .ref qo), (4, .int 0)]) hx hb dL_law_1650 hl (by decide) rfl (fun ls hl => ?_)
  refine lv_aload_n hx hb dL_law_1652 rfl (lv_at hl 4 rfl) ?_
  have hPc := hP.sub (ws' := [(y, .inr (16, g9))]) [4] rfl
  refine va_calli (va_runV (As := []) (rest := []) ⟨hx, hb, hml, hown, hts⟩ (kf_X13_thrownN l dC dI cI cB cJ cZ y g9 1 hg0) (cwV 0 hts gw_X13_thrown rfl rfl rfl (by decide +kernel) ⟨(Nat.le_of_ble_eq_true rfl), (Nat.le_of_ble_eq_true rfl)⟩) ⟨fun a U g mk q => by obtain ⟨q0, qP, qK⟩ := q; exact ⟨q0, qP, va_K.moved (u := U) (U := U.calling g mk a) (Vm.Alike.refl U.vm) qK⟩, va_recv hK hPc (ci := 16) (q0 := 0) rfl rfl, fun U hU hW => ⟨rfl, by rw [hU]; exact hPc, va_K.moved hW.alike hK⟩⟩ rfl rfl hl.1 rfl (lv_room (Nat.le_of_ble_eq_true rfl)) dL_law_1653 ⟨(Nat.le_of_ble_eq_true rfl), (Nat.le_of_ble_eq_true rfl)⟩) hS (fun q _ h => h.elim) (fun q h => h.elim) (fun r8 un t H1 locs ht hvm hw8 hB hz1 hk1 hS => ?_)
  obtain rfl : r8 = 1 := hw8
  have hP := hP.kept (fun k9 x9 h9 => hk1 x9.1 ((hP k9 x9 h9).lt) id)
  generalize H1 = H at hP hS ⊢
  refine lv_iload hx hb dL_law_1656 (lv_at hl 1 rfl) ?_
  refine lv_icmp_eq (tgt := 1663) hx hb dL_law_1658 (by decide) (fun _ => ?_) (fun c9 => absurd (rfl) c9)
  refine lv_iload hx hb dL_law_1663 (lv_at hl 1 rfl) ?_
  refine lv_if_ne (tgt := 1680) hx hb dL_law_1665 (by decide) (fun _ => ?_) (fun c9 => absurd c9 (by decide))
  refine lv_goto (tgt := 2616) hx hb dL_law_1680 (by decide) ?_
  exact lc_fin C0 hS (lv_sub hl [2, 6] rfl) (Nat.le_of_ble_eq_true rfl) (Nat.le_of_ble_eq_true rfl)
theorem dL_law_1683 : decode cL_law 1683 = .ok (.aload_n 1, 1) := by decide +kernel
theorem dL_law_1684 : decode cL_law 1684 = .ok (.aload_n 0, 1) := by decide +kernel
theorem dL_law_1685 : decode cL_law 1685 = .ok (.iload 4, 2) := by decide +kernel
theorem dL_law_1687 : decode cL_law 1687 = .ok (.iconst 1, 1) := by decide +kernel
theorem dL_law_1688 : decode cL_law 1688 = .ok (.iadd, 1) := by decide +kernel
theorem dL_law_1689 : decode cL_law 1689 = .ok (.iaload, 1) := by decide +kernel
theorem dL_law_1690 : decode cL_law 1690 = .ok (.aload_n 3, 1) := by decide +kernel
theorem dL_law_1691 : decode cL_law 1691 = .ok (.invokestatic 220, 3) := by decide +kernel
theorem dL_law_1694 : decode cL_law 1694 = .ok (.istore 5, 2) := by decide +kernel
theorem dL_law_1696 : decode cL_law 1696 = .ok (.aload_n 2, 1) := by decide +kernel
theorem dL_law_1697 : decode cL_law 1697 = .ok (.aload_n 0, 1) := by decide +kernel
theorem dL_law_1698 : decode cL_law 1698 = .ok (.iload 4, 2) := by decide +kernel
theorem dL_law_1700 : decode cL_law 1700 = .ok (.iconst 1, 1) := by decide +kernel
theorem dL_law_1701 : decode cL_law 1701 = .ok (.iadd, 1) := by decide +kernel
theorem dL_law_1702 : decode cL_law 1702 = .ok (.iaload, 1) := by decide +kernel
theorem dL_law_1703 : decode cL_law 1703 = .ok (.invokevirtual 222, 3) := by decide +kernel
theorem dL_law_1706 : decode cL_law 1706 = .ok (.istore 6, 2) := by decide +kernel
theorem dL_law_1708 : decode cL_law 1708 = .ok (.aload_n 2, 1) := by decide +kernel
theorem dL_law_1709 : decode cL_law 1709 = .ok (.invokevirtual 137, 3) := by decide +kernel
theorem dL_law_1712 : decode cL_law 1712 = .ok (.iload 5, 2) := by decide +kernel
theorem dL_law_1714 : decode cL_law 1714 = .ok (.if_icmp .eq 5, 3) := by decide +kernel
theorem dL_law_1717 : decode cL_law 1717 = .ok (.iconst 0, 1) := by decide +kernel
theorem dL_law_1718 : decode cL_law 1718 = .ok (.ireturn, 1) := by decide +kernel
theorem dL_law_1719 : decode cL_law 1719 = .ok (.iload 5, 2) := by decide +kernel
theorem dL_law_1721 : decode cL_law 1721 = .ok (.ifCond .ne 15, 3) := by decide +kernel
theorem dL_law_1724 : decode cL_law 1724 = .ok (.aload_n 3, 1) := by decide +kernel
theorem dL_law_1725 : decode cL_law 1725 = .ok (.iconst 0, 1) := by decide +kernel
theorem dL_law_1726 : decode cL_law 1726 = .ok (.laload, 1) := by decide +kernel
theorem dL_law_1727 : decode cL_law 1727 = .ok (.iload 6, 2) := by decide +kernel
theorem dL_law_1729 : decode cL_law 1729 = .ok (.i2l, 1) := by decide +kernel
theorem dL_law_1730 : decode cL_law 1730 = .ok (.lcmp, 1) := by decide +kernel
theorem dL_law_1731 : decode cL_law 1731 = .ok (.ifCond .eq 5, 3) := by decide +kernel
theorem dL_law_1734 : decode cL_law 1734 = .ok (.iconst 0, 1) := by decide +kernel
theorem dL_law_1735 : decode cL_law 1735 = .ok (.ireturn, 1) := by decide +kernel
theorem dL_law_1736 : decode cL_law 1736 = .ok (.goto 880, 3) := by decide +kernel
set_option maxHeartbeats 4000000 in
set_option maxRecDepth 100000 in
theorem lc_signature {p : Program} {l : Launch} {e : Env} {s : State} {m : MethodId} {below : List Frame} {meth : Method} {c : Code} {b : Nat} {xs : Nat → Int32} {dC : Nat → ClassId} {dI : Nat → Nat → Nat} {cI cB cJ cZ : ClassId} {sa : Nat → Nat} (C0 : lw_At p s m meth c b 6 xs) (hG : ow_LG l s dC dI cI cB cJ cZ sa) {x y qo : Nat} {u : Nat → Nat} {v : List Value × (Nat → Nat)} (hv : kn_X13_init v) {H : Heap} {locs : List Loc} {ls : Array Slot} (hP : va_P (dC, dI) vwCl (wd_X11_init cI cB cJ x u ++ (wd_X13_init cI cB y v ++ [(qo, .inl (cJ, 1, .inr (.inl (fun _ => 0))))])) H) (hD : va_D (fun q : Nat => s.heap.size ≤ q) (wd_X11_init cI cB cJ x u ++ (wd_X13_init cI cB y v ++ [(qo, .inl (cJ, 1, .inr (.inl (fun _ => 0))))]))) (hS : va_S (fun q : Nat => s.heap.size ≤ q) s.heap H locs) (hl : lv_has ls 8 [(0, .ref b), (1, .ref x), (2, .ref y), (3, .ref qo), (4, .int 0)]) : W p l e room_1 s m #[Value.ref b] below meth c H locs 694 1334208 (lw_Z below #[Value.ref b] s) (F0 m 1683 ls []) := by
  obtain ⟨hx, hb, hr, hml, hown, hts, hX, hbl, hlocks, hgv⟩ := id C0
  have hown : s.vm.findClass RL = some m.cls := hown
  have hA : ∀ q : Nat, s.heap.size ≤ q → (fun q : Nat => s.heap.size ≤ q) q := fun _ h => h
  have hbA : ¬ (fun q : Nat => s.heap.size ≤ q) b := Nat.not_le.mpr hbl
  have hK := hG.2.1
  have hP := hP.sub (ws' := [(x, .inr (14, [.ref (u 0), .ref (u 1), .ref (u 2), .ref (u 3), .ref (u 4), .ref (u 5), .ref (u 6), .ref (u 7), .ref (u 8), .ref (u 9), .ref (u 10), .ref (u 11), .ref (u 12), .ref (u 13), .ref (u 14), .ref (u 15), .ref (u 16), .ref (u 17), .ref (u 18)])), ((u 0), .inr (6, [.ref (u 19), .ref (u 20), .ref (u 21), .ref (u 22), .int 0])), ((u 20), .inl (cB, 40, .inl (fun _ => 0))), (y, .inr (16, v.1)), ((v.2 1), .inl (cI, 1280, .inl (fun _ => 0))), (qo, .inl (cJ, 1, .inr (.inl (fun _ => 0))))]) [0, 1, 3, 60, 62, 71] rfl
  have hD := hD.sub (ws' := [(x, .inr (14, [.ref (u 0), .ref (u 1), .ref (u 2), .ref (u 3), .ref (u 4), .ref (u 5), .ref (u 6), .ref (u 7), .ref (u 8), .ref (u 9), .ref (u 10), .ref (u 11), .ref (u 12), .ref (u 13), .ref (u 14), .ref (u 15), .ref (u 16), .ref (u 17), .ref (u 18)])), ((u 0), .inr (6, [.ref (u 19), .ref (u 20), .ref (u 21), .ref (u 22), .int 0])), ((u 20), .inl (cB, 40, .inl (fun _ => 0))), (y, .inr (16, v.1)), ((v.2 1), .inl (cI, 1280, .inl (fun _ => 0))), (qo, .inl (cJ, 1, .inr (.inl (fun _ => 0))))]) [0, 1, 3, 60, 62, 71] (by decide) rfl
  refine lv_aload_n hx hb dL_law_1683 rfl (lv_at hl 1 rfl) ?_
  refine lv_aload_n hx hb dL_law_1684 rfl (lv_at hl 0 rfl) ?_
  refine lv_iload hx hb dL_law_1685 (lv_at hl 4 rfl) ?_
  refine lv_iconst (v := 1) hx hb dL_law_1687 (by decide) ?_
  refine lv_iadd hx hb dL_law_1688 ?_
  refine ow_topi (y := 1) (by decide) ?_
  refine va_sld hx hb hX hbl hbA hS (vp_in_nI (n := 1) (N := 6) (by decide) (by decide)) dL_law_1689 ?_
  refine ow_topi (y := xs 1) (congrArg xs (by decide)) ?_
  refine lv_aload_n hx hb dL_law_1690 rfl (lv_at hl 3 rfl) ?_
  have hPc := hP.sub (ws' := [(x, .inr (14, [.ref (u 0), .ref (u 1), .ref (u 2), .ref (u 3), .ref (u 4), .ref (u 5), .ref (u 6), .ref (u 7), .ref (u 8), .ref (u 9), .ref (u 10), .ref (u 11), .ref (u 12), .ref (u 13), .ref (u 14), .ref (u 15), .ref (u 16), .ref (u 17), .ref (u 18)])), ((u 0), .inr (6, [.ref (u 19), .ref (u 20), .ref (u 21), .ref (u 22), .int 0])), ((u 20), .inl (cB, 40, .inl (fun _ => 0)))]) [0, 1, 2] rfl
  refine vx_calli (vx_runSX (As := [.ref x, .int (xs 1), .ref qo]) (rest := []) ⟨hx, hb, hml, hown, hts⟩ (kf_L_signature l dC dI cI cB cJ cZ hG.1 x (sa 0) qo u (xs 1)) (vx_cwSW 3 hts gw_L_signature rfl rfl rfl (by decide +kernel) ⟨(Nat.le_of_ble_eq_true rfl), (Nat.le_of_ble_eq_true rfl)⟩) ⟨fun a U g mk q => by obtain ⟨q0, qP, qK, qT⟩ := q; exact ⟨q0, qP, va_K.moved (u := U) (U := U.calling g mk a) (Vm.Alike.refl U.vm) qK, qT.same rfl rfl⟩, fun U hU hW => ⟨rfl, by rw [hU]; exact hPc, va_K.moved hW.alike hK, (hG.2.2.2.1).to hS hW hU (fun q h => h.elim)⟩⟩ rfl rfl hl.1 rfl (lv_room (Nat.le_of_ble_eq_true rfl)) dL_law_1691 ⟨(Nat.le_of_ble_eq_true rfl), (Nat.le_of_ble_eq_true rfl)⟩) hS (fun q _ h => h.elim) (fun q h => h.elim) (fun q _ h => h.elim) (fun E ce q9 u9 t H1 locs1 ht hvm hp hB hz hk hS hce hcv hcl => hp.elim) (fun r7 g7 t H1 locs ht hvm hw hB hz1 hk1 hS => ?_)
  obtain rfl : r7 = 1 := hw
  have hP := hP.kept (fun k9 x9 h9 => hk1 x9.1 ((hP k9 x9 h9).lt) id)
  generalize H1 = H at hP hS ⊢
  refine W.widen (k := 695) (n := 1334214) (Nat.le_of_ble_eq_true rfl) (Nat.le_of_ble_eq_true rfl) ?_
  refine lv_istore (lv' := [(5, .int 1), (0, .ref b), (1, .ref x), (2, .ref y), (3, .ref qo), (4, .int 0)]) hx hb dL_law_1694 hl (by decide) rfl (fun ls hl => ?_)
  refine lv_aload_n hx hb dL_law_1696 rfl (lv_at hl 3 rfl) ?_
  refine lv_aload_n hx hb dL_law_1697 rfl (lv_at hl 1 rfl) ?_
  refine lv_iload hx hb dL_law_1698 (lv_at hl 5 rfl) ?_
  refine lv_iconst (v := 1) hx hb dL_law_1700 (by decide) ?_
  refine lv_iadd hx hb dL_law_1701 ?_
  refine ow_topi (y := 1) (by decide) ?_
  refine va_sld hx hb hX hbl hbA hS (vp_in_nI (n := 1) (N := 6) (by decide) (by decide)) dL_law_1702 ?_
  refine ow_topi (y := xs 1) (congrArg xs (by decide)) ?_
  have hPc := hP.sub (ws' := [(y, .inr (16, v.1)), ((v.2 1), .inl (cI, 1280, .inl (fun _ => 0)))]) [3, 4] rfl
  have hDc := hD.sub (ws' := [(y, .inr (16, v.1)), ((v.2 1), .inl (cI, 1280, .inl (fun _ => 0)))]) [3, 4] (by decide) rfl
  have hFc := va_free (wc := [(y, .inr (16, v.1)), ((v.2 1), .inl (cI, 1280, .inl (fun _ => 0)))]) hD hS hA [3, 4] rfl
  refine va_calli (va_runV (As := [.int (xs 1)]) (rest := []) ⟨hx, hb, hml, hown, hts⟩ (kf_X13_signature l dC dI cI cB cJ cZ y (v.2 1) H.size v.1 hv.1 (hv.2.at 20 rfl) (xs 1)) (cwV 1 hts gw_X13_signature rfl rfl rfl (by decide +kernel) ⟨(Nat.le_of_ble_eq_true rfl), (Nat.le_of_ble_eq_true rfl)⟩) ⟨fun a U g mk q => by obtain ⟨q0, q1, qP, qK, qD⟩ := q; exact ⟨q0, q1, qP, va_K.moved (u := U) (U := U.calling g mk a) (Vm.Alike.refl U.vm) qK, qD⟩, va_recv hK hPc (ci := 16) (q0 := 0) rfl rfl, fun U hU hW => ⟨rfl, by rw [hU], by rw [hU]; exact hPc, va_K.moved hW.alike hK, hDc.weaken (fun _ _ _ _ => trivial)⟩⟩ rfl rfl hl.1 rfl (lv_room (Nat.le_of_ble_eq_true rfl)) dL_law_1703 ⟨(Nat.le_of_ble_eq_true rfl), (Nat.le_of_ble_eq_true rfl)⟩) hS (fun q _ h => hFc q h) hFc (fun r9 g9 t H1 locs ht hvm hw hB hz1 hk1 hS => ?_)
  obtain ⟨hP1, hD1⟩ := hB
  rw [ht] at hP1
  obtain ⟨hP, hD⟩ := va_join (wr := [(x, .inr (14, [.ref (u 0), .ref (u 1), .ref (u 2), .ref (u 3), .ref (u 4), .ref (u 5), .ref (u 6), .ref (u 7), .ref (u 8), .ref (u 9), .ref (u 10), .ref (u 11), .ref (u 12), .ref (u 13), .ref (u 14), .ref (u 15), .ref (u 16), .ref (u 17), .ref (u 18)])), ((u 0), .inr (6, [.ref (u 19), .ref (u 20), .ref (u 21), .ref (u 22), .int 0])), ((u 20), .inl (cB, 40, .inl (fun _ => 0))), (qo, .inl (cJ, 1, .inr (.inl (fun _ => 0))))]) (w1 := [(y, .inr (16, g9))]) hP hD [3, 4] [0, 1, 2, 5] rfl rfl (by decide) (by decide) hk1 hFc hP1 hD1
  generalize H1 = H at hP hS ⊢
  have hP : va_P (dC, dI) vwCl [(x, .inr (14, [.ref (u 0), .ref (u 1), .ref (u 2), .ref (u 3), .ref (u 4), .ref (u 5), .ref (u 6), .ref (u 7), .ref (u 8), .ref (u 9), .ref (u 10), .ref (u 11), .ref (u 12), .ref (u 13), .ref (u 14), .ref (u 15), .ref (u 16), .ref (u 17), .ref (u 18)])), ((u 0), .inr (6, [.ref (u 19), .ref (u 20), .ref (u 21), .ref (u 22), .int 0])), ((u 20), .inl (cB, 40, .inl (fun _ => 0))), (qo, .inl (cJ, 1, .inr (.inl (fun _ => 0)))), (y, .inr (16, g9))] H := hP
  have hD : va_D (fun q : Nat => s.heap.size ≤ q) [(x, .inr (14, [.ref (u 0), .ref (u 1), .ref (u 2), .ref (u 3), .ref (u 4), .ref (u 5), .ref (u 6), .ref (u 7), .ref (u 8), .ref (u 9), .ref (u 10), .ref (u 11), .ref (u 12), .ref (u 13), .ref (u 14), .ref (u 15), .ref (u 16), .ref (u 17), .ref (u 18)])), ((u 0), .inr (6, [.ref (u 19), .ref (u 20), .ref (u 21), .ref (u 22), .int 0])), ((u 20), .inl (cB, 40, .inl (fun _ => 0))), (qo, .inl (cJ, 1, .inr (.inl (fun _ => 0)))), (y, .inr (16, g9))] := hD
  obtain ⟨hr9, hg0⟩ := hw
  subst hr9
  refine lv_istore (lv' := [(6, .int 0), (5, .int 1), (0, .ref b), (1, .ref x), (2, .ref y), (3, .ref qo), (4, .int 0)]) hx hb dL_law_1706 hl (by decide) rfl (fun ls hl => ?_)
  refine lv_aload_n hx hb dL_law_1708 rfl (lv_at hl 4 rfl) ?_
  have hPc := hP.sub (ws' := [(y, .inr (16, g9))]) [4] rfl
  refine va_calli (va_runV (As := []) (rest := []) ⟨hx, hb, hml, hown, hts⟩ (kf_X13_thrownN l dC dI cI cB cJ cZ y g9 1 hg0) (cwV 0 hts gw_X13_thrown rfl rfl rfl (by decide +kernel) ⟨(Nat.le_of_ble_eq_true rfl), (Nat.le_of_ble_eq_true rfl)⟩) ⟨fun a U g mk q => by obtain ⟨q0, qP, qK⟩ := q; exact ⟨q0, qP, va_K.moved (u := U) (U := U.calling g mk a) (Vm.Alike.refl U.vm) qK⟩, va_recv hK hPc (ci := 16) (q0 := 0) rfl rfl, fun U hU hW => ⟨rfl, by rw [hU]; exact hPc, va_K.moved hW.alike hK⟩⟩ rfl rfl hl.1 rfl (lv_room (Nat.le_of_ble_eq_true rfl)) dL_law_1709 ⟨(Nat.le_of_ble_eq_true rfl), (Nat.le_of_ble_eq_true rfl)⟩) hS (fun q _ h => h.elim) (fun q h => h.elim) (fun r8 un t H1 locs ht hvm hw8 hB hz1 hk1 hS => ?_)
  obtain rfl : r8 = 1 := hw8
  have hP := hP.kept (fun k9 x9 h9 => hk1 x9.1 ((hP k9 x9 h9).lt) id)
  generalize H1 = H at hP hS ⊢
  refine lv_iload hx hb dL_law_1712 (lv_at hl 1 rfl) ?_
  refine lv_icmp_eq (tgt := 1719) hx hb dL_law_1714 (by decide) (fun _ => ?_) (fun c9 => absurd (rfl) c9)
  refine lv_iload hx hb dL_law_1719 (lv_at hl 1 rfl) ?_
  refine lv_if_ne (tgt := 1736) hx hb dL_law_1721 (by decide) (fun _ => ?_) (fun c9 => absurd c9 (by decide))
  refine lv_goto (tgt := 2616) hx hb dL_law_1736 (by decide) ?_
  exact lc_fin C0 hS (lv_sub hl [2, 6] rfl) (Nat.le_of_ble_eq_true rfl) (Nat.le_of_ble_eq_true rfl)
theorem dL_law_1739 : decode cL_law 1739 = .ok (.aload_n 1, 1) := by decide +kernel
theorem dL_law_1740 : decode cL_law 1740 = .ok (.aload_n 0, 1) := by decide +kernel
theorem dL_law_1741 : decode cL_law 1741 = .ok (.iload 4, 2) := by decide +kernel
theorem dL_law_1743 : decode cL_law 1743 = .ok (.iconst 1, 1) := by decide +kernel
theorem dL_law_1744 : decode cL_law 1744 = .ok (.iadd, 1) := by decide +kernel
theorem dL_law_1745 : decode cL_law 1745 = .ok (.iaload, 1) := by decide +kernel
theorem dL_law_1746 : decode cL_law 1746 = .ok (.aload_n 0, 1) := by decide +kernel
theorem dL_law_1747 : decode cL_law 1747 = .ok (.iload 4, 2) := by decide +kernel
theorem dL_law_1749 : decode cL_law 1749 = .ok (.iconst 2, 1) := by decide +kernel
theorem dL_law_1750 : decode cL_law 1750 = .ok (.iadd, 1) := by decide +kernel
theorem dL_law_1751 : decode cL_law 1751 = .ok (.iaload, 1) := by decide +kernel
theorem dL_law_1752 : decode cL_law 1752 = .ok (.aload_n 3, 1) := by decide +kernel
theorem dL_law_1753 : decode cL_law 1753 = .ok (.invokestatic 223, 3) := by decide +kernel
theorem dL_law_1756 : decode cL_law 1756 = .ok (.istore 5, 2) := by decide +kernel
theorem dL_law_1758 : decode cL_law 1758 = .ok (.aload_n 2, 1) := by decide +kernel
theorem dL_law_1759 : decode cL_law 1759 = .ok (.aload_n 0, 1) := by decide +kernel
theorem dL_law_1760 : decode cL_law 1760 = .ok (.iload 4, 2) := by decide +kernel
theorem dL_law_1762 : decode cL_law 1762 = .ok (.iconst 1, 1) := by decide +kernel
theorem dL_law_1763 : decode cL_law 1763 = .ok (.iadd, 1) := by decide +kernel
theorem dL_law_1764 : decode cL_law 1764 = .ok (.iaload, 1) := by decide +kernel
theorem dL_law_1765 : decode cL_law 1765 = .ok (.aload_n 0, 1) := by decide +kernel
theorem dL_law_1766 : decode cL_law 1766 = .ok (.iload 4, 2) := by decide +kernel
theorem dL_law_1768 : decode cL_law 1768 = .ok (.iconst 2, 1) := by decide +kernel
theorem dL_law_1769 : decode cL_law 1769 = .ok (.iadd, 1) := by decide +kernel
theorem dL_law_1770 : decode cL_law 1770 = .ok (.iaload, 1) := by decide +kernel
theorem dL_law_1771 : decode cL_law 1771 = .ok (.invokevirtual 225, 3) := by decide +kernel
theorem dL_law_1774 : decode cL_law 1774 = .ok (.istore 6, 2) := by decide +kernel
theorem dL_law_1776 : decode cL_law 1776 = .ok (.aload_n 2, 1) := by decide +kernel
theorem dL_law_1777 : decode cL_law 1777 = .ok (.invokevirtual 137, 3) := by decide +kernel
theorem dL_law_1780 : decode cL_law 1780 = .ok (.iload 5, 2) := by decide +kernel
theorem dL_law_1782 : decode cL_law 1782 = .ok (.if_icmp .eq 5, 3) := by decide +kernel
theorem dL_law_1785 : decode cL_law 1785 = .ok (.iconst 0, 1) := by decide +kernel
theorem dL_law_1786 : decode cL_law 1786 = .ok (.ireturn, 1) := by decide +kernel
theorem dL_law_1787 : decode cL_law 1787 = .ok (.iload 5, 2) := by decide +kernel
theorem dL_law_1789 : decode cL_law 1789 = .ok (.ifCond .ne 15, 3) := by decide +kernel
theorem dL_law_1792 : decode cL_law 1792 = .ok (.aload_n 3, 1) := by decide +kernel
theorem dL_law_1793 : decode cL_law 1793 = .ok (.iconst 0, 1) := by decide +kernel
theorem dL_law_1794 : decode cL_law 1794 = .ok (.laload, 1) := by decide +kernel
theorem dL_law_1795 : decode cL_law 1795 = .ok (.iload 6, 2) := by decide +kernel
theorem dL_law_1797 : decode cL_law 1797 = .ok (.i2l, 1) := by decide +kernel
theorem dL_law_1798 : decode cL_law 1798 = .ok (.lcmp, 1) := by decide +kernel
theorem dL_law_1799 : decode cL_law 1799 = .ok (.ifCond .eq 5, 3) := by decide +kernel
theorem dL_law_1802 : decode cL_law 1802 = .ok (.iconst 0, 1) := by decide +kernel
theorem dL_law_1803 : decode cL_law 1803 = .ok (.ireturn, 1) := by decide +kernel
theorem dL_law_1804 : decode cL_law 1804 = .ok (.goto 812, 3) := by decide +kernel
set_option maxHeartbeats 4000000 in
set_option maxRecDepth 100000 in
theorem lc_cover {p : Program} {l : Launch} {e : Env} {s : State} {m : MethodId} {below : List Frame} {meth : Method} {c : Code} {b : Nat} {xs : Nat → Int32} {dC : Nat → ClassId} {dI : Nat → Nat → Nat} {cI cB cJ cZ : ClassId} {sa : Nat → Nat} (C0 : lw_At p s m meth c b 6 xs) (hG : ow_LG l s dC dI cI cB cJ cZ sa) {x y qo : Nat} {u : Nat → Nat} {v : List Value × (Nat → Nat)} (hv : kn_X13_init v) {H : Heap} {locs : List Loc} {ls : Array Slot} (hP : va_P (dC, dI) vwCl (wd_X11_init cI cB cJ x u ++ (wd_X13_init cI cB y v ++ [(qo, .inl (cJ, 1, .inr (.inl (fun _ => 0))))])) H) (hD : va_D (fun q : Nat => s.heap.size ≤ q) (wd_X11_init cI cB cJ x u ++ (wd_X13_init cI cB y v ++ [(qo, .inl (cJ, 1, .inr (.inl (fun _ => 0))))]))) (hS : va_S (fun q : Nat => s.heap.size ≤ q) s.heap H locs) (hl : lv_has ls 8 [(0, .ref b), (1, .ref x), (2, .ref y), (3, .ref qo), (4, .int 0)]) : W p l e room_1 s m #[Value.ref b] below meth c H locs 694 1334208 (lw_Z below #[Value.ref b] s) (F0 m 1739 ls []) := by
  obtain ⟨hx, hb, hr, hml, hown, hts, hX, hbl, hlocks, hgv⟩ := id C0
  have hown : s.vm.findClass RL = some m.cls := hown
  have hA : ∀ q : Nat, s.heap.size ≤ q → (fun q : Nat => s.heap.size ≤ q) q := fun _ h => h
  have hbA : ¬ (fun q : Nat => s.heap.size ≤ q) b := Nat.not_le.mpr hbl
  have hK := hG.2.1
  have hP := hP.sub (ws' := [(x, .inr (14, [.ref (u 0), .ref (u 1), .ref (u 2), .ref (u 3), .ref (u 4), .ref (u 5), .ref (u 6), .ref (u 7), .ref (u 8), .ref (u 9), .ref (u 10), .ref (u 11), .ref (u 12), .ref (u 13), .ref (u 14), .ref (u 15), .ref (u 16), .ref (u 17), .ref (u 18)])), ((u 0), .inr (6, [.ref (u 19), .ref (u 20), .ref (u 21), .ref (u 22), .int 0])), ((u 20), .inl (cB, 40, .inl (fun _ => 0))), (y, .inr (16, v.1)), ((v.2 1), .inl (cI, 1280, .inl (fun _ => 0))), (qo, .inl (cJ, 1, .inr (.inl (fun _ => 0))))]) [0, 1, 3, 60, 62, 71] rfl
  have hD := hD.sub (ws' := [(x, .inr (14, [.ref (u 0), .ref (u 1), .ref (u 2), .ref (u 3), .ref (u 4), .ref (u 5), .ref (u 6), .ref (u 7), .ref (u 8), .ref (u 9), .ref (u 10), .ref (u 11), .ref (u 12), .ref (u 13), .ref (u 14), .ref (u 15), .ref (u 16), .ref (u 17), .ref (u 18)])), ((u 0), .inr (6, [.ref (u 19), .ref (u 20), .ref (u 21), .ref (u 22), .int 0])), ((u 20), .inl (cB, 40, .inl (fun _ => 0))), (y, .inr (16, v.1)), ((v.2 1), .inl (cI, 1280, .inl (fun _ => 0))), (qo, .inl (cJ, 1, .inr (.inl (fun _ => 0))))]) [0, 1, 3, 60, 62, 71] (by decide) rfl
  refine lv_aload_n hx hb dL_law_1739 rfl (lv_at hl 1 rfl) ?_
  refine lv_aload_n hx hb dL_law_1740 rfl (lv_at hl 0 rfl) ?_
  refine lv_iload hx hb dL_law_1741 (lv_at hl 4 rfl) ?_
  refine lv_iconst (v := 1) hx hb dL_law_1743 (by decide) ?_
  refine lv_iadd hx hb dL_law_1744 ?_
  refine ow_topi (y := 1) (by decide) ?_
  refine va_sld hx hb hX hbl hbA hS (vp_in_nI (n := 1) (N := 6) (by decide) (by decide)) dL_law_1745 ?_
  refine ow_topi (y := xs 1) (congrArg xs (by decide)) ?_
  refine lv_aload_n hx hb dL_law_1746 rfl (lv_at hl 0 rfl) ?_
  refine lv_iload hx hb dL_law_1747 (lv_at hl 4 rfl) ?_
  refine lv_iconst (v := 2) hx hb dL_law_1749 (by decide) ?_
  refine lv_iadd hx hb dL_law_1750 ?_
  refine ow_topi (y := 2) (by decide) ?_
  refine va_sld hx hb hX hbl hbA hS (vp_in_nI (n := 2) (N := 6) (by decide) (by decide)) dL_law_1751 ?_
  refine ow_topi (y := xs 2) (congrArg xs (by decide)) ?_
  refine lv_aload_n hx hb dL_law_1752 rfl (lv_at hl 3 rfl) ?_
  have hPc := hP.sub (ws' := [(x, .inr (14, [.ref (u 0), .ref (u 1), .ref (u 2), .ref (u 3), .ref (u 4), .ref (u 5), .ref (u 6), .ref (u 7), .ref (u 8), .ref (u 9), .ref (u 10), .ref (u 11), .ref (u 12), .ref (u 13), .ref (u 14), .ref (u 15), .ref (u 16), .ref (u 17), .ref (u 18)])), ((u 0), .inr (6, [.ref (u 19), .ref (u 20), .ref (u 21), .ref (u 22), .int 0])), ((u 20), .inl (cB, 40, .inl (fun _ => 0)))]) [0, 1, 2] rfl
  refine vx_calli (vx_runSX (As := [.ref x, .int (xs 1), .int (xs 2), .ref qo]) (rest := []) ⟨hx, hb, hml, hown, hts⟩ (kf_L_cover l dC dI cI cB cJ cZ hG.1 x (sa 0) qo u (xs 1) (xs 2)) (vx_cwSW 4 hts gw_L_cover rfl rfl rfl (by decide +kernel) ⟨(Nat.le_of_ble_eq_true rfl), (Nat.le_of_ble_eq_true rfl)⟩) ⟨fun a U g mk q => by obtain ⟨q0, qP, qK, qT⟩ := q; exact ⟨q0, qP, va_K.moved (u := U) (U := U.calling g mk a) (Vm.Alike.refl U.vm) qK, qT.same rfl rfl⟩, fun U hU hW => ⟨rfl, by rw [hU]; exact hPc, va_K.moved hW.alike hK, (hG.2.2.2.1).to hS hW hU (fun q h => h.elim)⟩⟩ rfl rfl hl.1 rfl (lv_room (Nat.le_of_ble_eq_true rfl)) dL_law_1753 ⟨(Nat.le_of_ble_eq_true rfl), (Nat.le_of_ble_eq_true rfl)⟩) hS (fun q _ h => h.elim) (fun q h => h.elim) (fun q _ h => h.elim) (fun E ce q9 u9 t H1 locs1 ht hvm hp hB hz hk hS hce hcv hcl => hp.elim) (fun r7 g7 t H1 locs ht hvm hw hB hz1 hk1 hS => ?_)
  obtain rfl : r7 = 1 := hw
  have hP := hP.kept (fun k9 x9 h9 => hk1 x9.1 ((hP k9 x9 h9).lt) id)
  generalize H1 = H at hP hS ⊢
  refine W.widen (k := 695) (n := 1334214) (Nat.le_of_ble_eq_true rfl) (Nat.le_of_ble_eq_true rfl) ?_
  refine lv_istore (lv' := [(5, .int 1), (0, .ref b), (1, .ref x), (2, .ref y), (3, .ref qo), (4, .int 0)]) hx hb dL_law_1756 hl (by decide) rfl (fun ls hl => ?_)
  refine lv_aload_n hx hb dL_law_1758 rfl (lv_at hl 3 rfl) ?_
  refine lv_aload_n hx hb dL_law_1759 rfl (lv_at hl 1 rfl) ?_
  refine lv_iload hx hb dL_law_1760 (lv_at hl 5 rfl) ?_
  refine lv_iconst (v := 1) hx hb dL_law_1762 (by decide) ?_
  refine lv_iadd hx hb dL_law_1763 ?_
  refine ow_topi (y := 1) (by decide) ?_
  refine va_sld hx hb hX hbl hbA hS (vp_in_nI (n := 1) (N := 6) (by decide) (by decide)) dL_law_1764 ?_
  refine ow_topi (y := xs 1) (congrArg xs (by decide)) ?_
  refine lv_aload_n hx hb dL_law_1765 rfl (lv_at hl 1 rfl) ?_
  refine lv_iload hx hb dL_law_1766 (lv_at hl 5 rfl) ?_
  refine lv_iconst (v := 2) hx hb dL_law_1768 (by decide) ?_
  refine lv_iadd hx hb dL_law_1769 ?_
  refine ow_topi (y := 2) (by decide) ?_
  refine va_sld hx hb hX hbl hbA hS (vp_in_nI (n := 2) (N := 6) (by decide) (by decide)) dL_law_1770 ?_
  refine ow_topi (y := xs 2) (congrArg xs (by decide)) ?_
  have hPc := hP.sub (ws' := [(y, .inr (16, v.1)), ((v.2 1), .inl (cI, 1280, .inl (fun _ => 0)))]) [3, 4] rfl
  have hDc := hD.sub (ws' := [(y, .inr (16, v.1)), ((v.2 1), .inl (cI, 1280, .inl (fun _ => 0)))]) [3, 4] (by decide) rfl
  have hFc := va_free (wc := [(y, .inr (16, v.1)), ((v.2 1), .inl (cI, 1280, .inl (fun _ => 0)))]) hD hS hA [3, 4] rfl
  refine va_calli (va_runV (As := [.int (xs 1), .int (xs 2)]) (rest := []) ⟨hx, hb, hml, hown, hts⟩ (kf_X13_cover l dC dI cI cB cJ cZ y (v.2 1) H.size v.1 hv.1 (hv.2.at 20 rfl) (xs 1) (xs 2)) (cwV 2 hts gw_X13_cover rfl rfl rfl (by decide +kernel) ⟨(Nat.le_of_ble_eq_true rfl), (Nat.le_of_ble_eq_true rfl)⟩) ⟨fun a U g mk q => by obtain ⟨q0, q1, qP, qK, qD⟩ := q; exact ⟨q0, q1, qP, va_K.moved (u := U) (U := U.calling g mk a) (Vm.Alike.refl U.vm) qK, qD⟩, va_recv hK hPc (ci := 16) (q0 := 0) rfl rfl, fun U hU hW => ⟨rfl, by rw [hU], by rw [hU]; exact hPc, va_K.moved hW.alike hK, hDc.weaken (fun _ _ _ _ => trivial)⟩⟩ rfl rfl hl.1 rfl (lv_room (Nat.le_of_ble_eq_true rfl)) dL_law_1771 ⟨(Nat.le_of_ble_eq_true rfl), (Nat.le_of_ble_eq_true rfl)⟩) hS (fun q _ h => hFc q h) hFc (fun r9 g9 t H1 locs ht hvm hw hB hz1 hk1 hS => ?_)
  obtain ⟨hP1, hD1⟩ := hB
  rw [ht] at hP1
  obtain ⟨hP, hD⟩ := va_join (wr := [(x, .inr (14, [.ref (u 0), .ref (u 1), .ref (u 2), .ref (u 3), .ref (u 4), .ref (u 5), .ref (u 6), .ref (u 7), .ref (u 8), .ref (u 9), .ref (u 10), .ref (u 11), .ref (u 12), .ref (u 13), .ref (u 14), .ref (u 15), .ref (u 16), .ref (u 17), .ref (u 18)])), ((u 0), .inr (6, [.ref (u 19), .ref (u 20), .ref (u 21), .ref (u 22), .int 0])), ((u 20), .inl (cB, 40, .inl (fun _ => 0))), (qo, .inl (cJ, 1, .inr (.inl (fun _ => 0))))]) (w1 := [(y, .inr (16, g9))]) hP hD [3, 4] [0, 1, 2, 5] rfl rfl (by decide) (by decide) hk1 hFc hP1 hD1
  generalize H1 = H at hP hS ⊢
  have hP : va_P (dC, dI) vwCl [(x, .inr (14, [.ref (u 0), .ref (u 1), .ref (u 2), .ref (u 3), .ref (u 4), .ref (u 5), .ref (u 6), .ref (u 7), .ref (u 8), .ref (u 9), .ref (u 10), .ref (u 11), .ref (u 12), .ref (u 13), .ref (u 14), .ref (u 15), .ref (u 16), .ref (u 17), .ref (u 18)])), ((u 0), .inr (6, [.ref (u 19), .ref (u 20), .ref (u 21), .ref (u 22), .int 0])), ((u 20), .inl (cB, 40, .inl (fun _ => 0))), (qo, .inl (cJ, 1, .inr (.inl (fun _ => 0)))), (y, .inr (16, g9))] H := hP
  have hD : va_D (fun q : Nat => s.heap.size ≤ q) [(x, .inr (14, [.ref (u 0), .ref (u 1), .ref (u 2), .ref (u 3), .ref (u 4), .ref (u 5), .ref (u 6), .ref (u 7), .ref (u 8), .ref (u 9), .ref (u 10), .ref (u 11), .ref (u 12), .ref (u 13), .ref (u 14), .ref (u 15), .ref (u 16), .ref (u 17), .ref (u 18)])), ((u 0), .inr (6, [.ref (u 19), .ref (u 20), .ref (u 21), .ref (u 22), .int 0])), ((u 20), .inl (cB, 40, .inl (fun _ => 0))), (qo, .inl (cJ, 1, .inr (.inl (fun _ => 0)))), (y, .inr (16, g9))] := hD
  obtain ⟨hr9, hg0⟩ := hw
  subst hr9
  refine lv_istore (lv' := [(6, .int 0), (5, .int 1), (0, .ref b), (1, .ref x), (2, .ref y), (3, .ref qo), (4, .int 0)]) hx hb dL_law_1774 hl (by decide) rfl (fun ls hl => ?_)
  refine lv_aload_n hx hb dL_law_1776 rfl (lv_at hl 4 rfl) ?_
  have hPc := hP.sub (ws' := [(y, .inr (16, g9))]) [4] rfl
  refine va_calli (va_runV (As := []) (rest := []) ⟨hx, hb, hml, hown, hts⟩ (kf_X13_thrownN l dC dI cI cB cJ cZ y g9 1 hg0) (cwV 0 hts gw_X13_thrown rfl rfl rfl (by decide +kernel) ⟨(Nat.le_of_ble_eq_true rfl), (Nat.le_of_ble_eq_true rfl)⟩) ⟨fun a U g mk q => by obtain ⟨q0, qP, qK⟩ := q; exact ⟨q0, qP, va_K.moved (u := U) (U := U.calling g mk a) (Vm.Alike.refl U.vm) qK⟩, va_recv hK hPc (ci := 16) (q0 := 0) rfl rfl, fun U hU hW => ⟨rfl, by rw [hU]; exact hPc, va_K.moved hW.alike hK⟩⟩ rfl rfl hl.1 rfl (lv_room (Nat.le_of_ble_eq_true rfl)) dL_law_1777 ⟨(Nat.le_of_ble_eq_true rfl), (Nat.le_of_ble_eq_true rfl)⟩) hS (fun q _ h => h.elim) (fun q h => h.elim) (fun r8 un t H1 locs ht hvm hw8 hB hz1 hk1 hS => ?_)
  obtain rfl : r8 = 1 := hw8
  have hP := hP.kept (fun k9 x9 h9 => hk1 x9.1 ((hP k9 x9 h9).lt) id)
  generalize H1 = H at hP hS ⊢
  refine lv_iload hx hb dL_law_1780 (lv_at hl 1 rfl) ?_
  refine lv_icmp_eq (tgt := 1787) hx hb dL_law_1782 (by decide) (fun _ => ?_) (fun c9 => absurd (rfl) c9)
  refine lv_iload hx hb dL_law_1787 (lv_at hl 1 rfl) ?_
  refine lv_if_ne (tgt := 1804) hx hb dL_law_1789 (by decide) (fun _ => ?_) (fun c9 => absurd c9 (by decide))
  refine lv_goto (tgt := 2616) hx hb dL_law_1804 (by decide) ?_
  exact lc_fin C0 hS (lv_sub hl [2, 6] rfl) (Nat.le_of_ble_eq_true rfl) (Nat.le_of_ble_eq_true rfl)
theorem dL_law_1807 : decode cL_law 1807 = .ok (.aload_n 1, 1) := by decide +kernel
theorem dL_law_1808 : decode cL_law 1808 = .ok (.aload_n 0, 1) := by decide +kernel
theorem dL_law_1809 : decode cL_law 1809 = .ok (.iload 4, 2) := by decide +kernel
theorem dL_law_1811 : decode cL_law 1811 = .ok (.iconst 1, 1) := by decide +kernel
theorem dL_law_1812 : decode cL_law 1812 = .ok (.iadd, 1) := by decide +kernel
theorem dL_law_1813 : decode cL_law 1813 = .ok (.iaload, 1) := by decide +kernel
theorem dL_law_1814 : decode cL_law 1814 = .ok (.aload_n 0, 1) := by decide +kernel
theorem dL_law_1815 : decode cL_law 1815 = .ok (.iload 4, 2) := by decide +kernel
theorem dL_law_1817 : decode cL_law 1817 = .ok (.iconst 2, 1) := by decide +kernel
theorem dL_law_1818 : decode cL_law 1818 = .ok (.iadd, 1) := by decide +kernel
theorem dL_law_1819 : decode cL_law 1819 = .ok (.iaload, 1) := by decide +kernel
theorem dL_law_1820 : decode cL_law 1820 = .ok (.aload_n 3, 1) := by decide +kernel
theorem dL_law_1821 : decode cL_law 1821 = .ok (.invokestatic 226, 3) := by decide +kernel
theorem dL_law_1824 : decode cL_law 1824 = .ok (.istore 5, 2) := by decide +kernel
theorem dL_law_1826 : decode cL_law 1826 = .ok (.aload_n 2, 1) := by decide +kernel
theorem dL_law_1827 : decode cL_law 1827 = .ok (.aload_n 0, 1) := by decide +kernel
theorem dL_law_1828 : decode cL_law 1828 = .ok (.iload 4, 2) := by decide +kernel
theorem dL_law_1830 : decode cL_law 1830 = .ok (.iconst 1, 1) := by decide +kernel
theorem dL_law_1831 : decode cL_law 1831 = .ok (.iadd, 1) := by decide +kernel
theorem dL_law_1832 : decode cL_law 1832 = .ok (.iaload, 1) := by decide +kernel
theorem dL_law_1833 : decode cL_law 1833 = .ok (.aload_n 0, 1) := by decide +kernel
theorem dL_law_1834 : decode cL_law 1834 = .ok (.iload 4, 2) := by decide +kernel
theorem dL_law_1836 : decode cL_law 1836 = .ok (.iconst 2, 1) := by decide +kernel
theorem dL_law_1837 : decode cL_law 1837 = .ok (.iadd, 1) := by decide +kernel
theorem dL_law_1838 : decode cL_law 1838 = .ok (.iaload, 1) := by decide +kernel
theorem dL_law_1839 : decode cL_law 1839 = .ok (.invokevirtual 228, 3) := by decide +kernel
theorem dL_law_1842 : decode cL_law 1842 = .ok (.lstore 6, 2) := by decide +kernel
theorem dL_law_1844 : decode cL_law 1844 = .ok (.aload_n 2, 1) := by decide +kernel
theorem dL_law_1845 : decode cL_law 1845 = .ok (.invokevirtual 137, 3) := by decide +kernel
theorem dL_law_1848 : decode cL_law 1848 = .ok (.iload 5, 2) := by decide +kernel
theorem dL_law_1850 : decode cL_law 1850 = .ok (.if_icmp .eq 5, 3) := by decide +kernel
theorem dL_law_1853 : decode cL_law 1853 = .ok (.iconst 0, 1) := by decide +kernel
theorem dL_law_1854 : decode cL_law 1854 = .ok (.ireturn, 1) := by decide +kernel
theorem dL_law_1855 : decode cL_law 1855 = .ok (.iload 5, 2) := by decide +kernel
theorem dL_law_1857 : decode cL_law 1857 = .ok (.ifCond .ne 14, 3) := by decide +kernel
theorem dL_law_1860 : decode cL_law 1860 = .ok (.aload_n 3, 1) := by decide +kernel
theorem dL_law_1861 : decode cL_law 1861 = .ok (.iconst 0, 1) := by decide +kernel
theorem dL_law_1862 : decode cL_law 1862 = .ok (.laload, 1) := by decide +kernel
theorem dL_law_1863 : decode cL_law 1863 = .ok (.lload 6, 2) := by decide +kernel
theorem dL_law_1865 : decode cL_law 1865 = .ok (.lcmp, 1) := by decide +kernel
theorem dL_law_1866 : decode cL_law 1866 = .ok (.ifCond .eq 5, 3) := by decide +kernel
theorem dL_law_1869 : decode cL_law 1869 = .ok (.iconst 0, 1) := by decide +kernel
theorem dL_law_1870 : decode cL_law 1870 = .ok (.ireturn, 1) := by decide +kernel
theorem dL_law_1871 : decode cL_law 1871 = .ok (.goto 745, 3) := by decide +kernel
set_option maxHeartbeats 4000000 in
set_option maxRecDepth 100000 in
theorem lc_colours {p : Program} {l : Launch} {e : Env} {s : State} {m : MethodId} {below : List Frame} {meth : Method} {c : Code} {b : Nat} {xs : Nat → Int32} {dC : Nat → ClassId} {dI : Nat → Nat → Nat} {cI cB cJ cZ : ClassId} {sa : Nat → Nat} (C0 : lw_At p s m meth c b 6 xs) (hG : ow_LG l s dC dI cI cB cJ cZ sa) {x y qo : Nat} {u : Nat → Nat} {v : List Value × (Nat → Nat)} (hv : kn_X13_init v) {H : Heap} {locs : List Loc} {ls : Array Slot} (hP : va_P (dC, dI) vwCl (wd_X11_init cI cB cJ x u ++ (wd_X13_init cI cB y v ++ [(qo, .inl (cJ, 1, .inr (.inl (fun _ => 0))))])) H) (hD : va_D (fun q : Nat => s.heap.size ≤ q) (wd_X11_init cI cB cJ x u ++ (wd_X13_init cI cB y v ++ [(qo, .inl (cJ, 1, .inr (.inl (fun _ => 0))))]))) (hS : va_S (fun q : Nat => s.heap.size ≤ q) s.heap H locs) (hl : lv_has ls 8 [(0, .ref b), (1, .ref x), (2, .ref y), (3, .ref qo), (4, .int 0)]) : W p l e room_1 s m #[Value.ref b] below meth c H locs 694 1334208 (lw_Z below #[Value.ref b] s) (F0 m 1807 ls []) := by
  obtain ⟨hx, hb, hr, hml, hown, hts, hX, hbl, hlocks, hgv⟩ := id C0
  have hown : s.vm.findClass RL = some m.cls := hown
  have hA : ∀ q : Nat, s.heap.size ≤ q → (fun q : Nat => s.heap.size ≤ q) q := fun _ h => h
  have hbA : ¬ (fun q : Nat => s.heap.size ≤ q) b := Nat.not_le.mpr hbl
  have hK := hG.2.1
  have hP := hP.sub (ws' := [(x, .inr (14, [.ref (u 0), .ref (u 1), .ref (u 2), .ref (u 3), .ref (u 4), .ref (u 5), .ref (u 6), .ref (u 7), .ref (u 8), .ref (u 9), .ref (u 10), .ref (u 11), .ref (u 12), .ref (u 13), .ref (u 14), .ref (u 15), .ref (u 16), .ref (u 17), .ref (u 18)])), ((u 0), .inr (6, [.ref (u 19), .ref (u 20), .ref (u 21), .ref (u 22), .int 0])), ((u 20), .inl (cB, 40, .inl (fun _ => 0))), (y, .inr (16, v.1)), ((v.2 1), .inl (cI, 1280, .inl (fun _ => 0))), (qo, .inl (cJ, 1, .inr (.inl (fun _ => 0))))]) [0, 1, 3, 60, 62, 71] rfl
  have hD := hD.sub (ws' := [(x, .inr (14, [.ref (u 0), .ref (u 1), .ref (u 2), .ref (u 3), .ref (u 4), .ref (u 5), .ref (u 6), .ref (u 7), .ref (u 8), .ref (u 9), .ref (u 10), .ref (u 11), .ref (u 12), .ref (u 13), .ref (u 14), .ref (u 15), .ref (u 16), .ref (u 17), .ref (u 18)])), ((u 0), .inr (6, [.ref (u 19), .ref (u 20), .ref (u 21), .ref (u 22), .int 0])), ((u 20), .inl (cB, 40, .inl (fun _ => 0))), (y, .inr (16, v.1)), ((v.2 1), .inl (cI, 1280, .inl (fun _ => 0))), (qo, .inl (cJ, 1, .inr (.inl (fun _ => 0))))]) [0, 1, 3, 60, 62, 71] (by decide) rfl
  refine lv_aload_n hx hb dL_law_1807 rfl (lv_at hl 1 rfl) ?_
  refine lv_aload_n hx hb dL_law_1808 rfl (lv_at hl 0 rfl) ?_
  refine lv_iload hx hb dL_law_1809 (lv_at hl 4 rfl) ?_
  refine lv_iconst (v := 1) hx hb dL_law_1811 (by decide) ?_
  refine lv_iadd hx hb dL_law_1812 ?_
  refine ow_topi (y := 1) (by decide) ?_
  refine va_sld hx hb hX hbl hbA hS (vp_in_nI (n := 1) (N := 6) (by decide) (by decide)) dL_law_1813 ?_
  refine ow_topi (y := xs 1) (congrArg xs (by decide)) ?_
  refine lv_aload_n hx hb dL_law_1814 rfl (lv_at hl 0 rfl) ?_
  refine lv_iload hx hb dL_law_1815 (lv_at hl 4 rfl) ?_
  refine lv_iconst (v := 2) hx hb dL_law_1817 (by decide) ?_
  refine lv_iadd hx hb dL_law_1818 ?_
  refine ow_topi (y := 2) (by decide) ?_
  refine va_sld hx hb hX hbl hbA hS (vp_in_nI (n := 2) (N := 6) (by decide) (by decide)) dL_law_1819 ?_
  refine ow_topi (y := xs 2) (congrArg xs (by decide)) ?_
  refine lv_aload_n hx hb dL_law_1820 rfl (lv_at hl 3 rfl) ?_
  have hPc := hP.sub (ws' := [(x, .inr (14, [.ref (u 0), .ref (u 1), .ref (u 2), .ref (u 3), .ref (u 4), .ref (u 5), .ref (u 6), .ref (u 7), .ref (u 8), .ref (u 9), .ref (u 10), .ref (u 11), .ref (u 12), .ref (u 13), .ref (u 14), .ref (u 15), .ref (u 16), .ref (u 17), .ref (u 18)])), ((u 0), .inr (6, [.ref (u 19), .ref (u 20), .ref (u 21), .ref (u 22), .int 0])), ((u 20), .inl (cB, 40, .inl (fun _ => 0)))]) [0, 1, 2] rfl
  refine vx_calli (vx_runSX (As := [.ref x, .int (xs 1), .int (xs 2), .ref qo]) (rest := []) ⟨hx, hb, hml, hown, hts⟩ (kf_L_colours l dC dI cI cB cJ cZ hG.1 x (sa 0) qo u (xs 1) (xs 2)) (vx_cwSW 4 hts gw_L_colours rfl rfl rfl (by decide +kernel) ⟨(Nat.le_of_ble_eq_true rfl), (Nat.le_of_ble_eq_true rfl)⟩) ⟨fun a U g mk q => by obtain ⟨q0, qP, qK, qT⟩ := q; exact ⟨q0, qP, va_K.moved (u := U) (U := U.calling g mk a) (Vm.Alike.refl U.vm) qK, qT.same rfl rfl⟩, fun U hU hW => ⟨rfl, by rw [hU]; exact hPc, va_K.moved hW.alike hK, (hG.2.2.2.1).to hS hW hU (fun q h => h.elim)⟩⟩ rfl rfl hl.1 rfl (lv_room (Nat.le_of_ble_eq_true rfl)) dL_law_1821 ⟨(Nat.le_of_ble_eq_true rfl), (Nat.le_of_ble_eq_true rfl)⟩) hS (fun q _ h => h.elim) (fun q h => h.elim) (fun q _ h => h.elim) (fun E ce q9 u9 t H1 locs1 ht hvm hp hB hz hk hS hce hcv hcl => hp.elim) (fun r7 g7 t H1 locs ht hvm hw hB hz1 hk1 hS => ?_)
  obtain rfl : r7 = 1 := hw
  have hP := hP.kept (fun k9 x9 h9 => hk1 x9.1 ((hP k9 x9 h9).lt) id)
  generalize H1 = H at hP hS ⊢
  refine W.widen (k := 695) (n := 1334214) (Nat.le_of_ble_eq_true rfl) (Nat.le_of_ble_eq_true rfl) ?_
  refine lv_istore (lv' := [(5, .int 1), (0, .ref b), (1, .ref x), (2, .ref y), (3, .ref qo), (4, .int 0)]) hx hb dL_law_1824 hl (by decide) rfl (fun ls hl => ?_)
  refine lv_aload_n hx hb dL_law_1826 rfl (lv_at hl 3 rfl) ?_
  refine lv_aload_n hx hb dL_law_1827 rfl (lv_at hl 1 rfl) ?_
  refine lv_iload hx hb dL_law_1828 (lv_at hl 5 rfl) ?_
  refine lv_iconst (v := 1) hx hb dL_law_1830 (by decide) ?_
  refine lv_iadd hx hb dL_law_1831 ?_
  refine ow_topi (y := 1) (by decide) ?_
  refine va_sld hx hb hX hbl hbA hS (vp_in_nI (n := 1) (N := 6) (by decide) (by decide)) dL_law_1832 ?_
  refine ow_topi (y := xs 1) (congrArg xs (by decide)) ?_
  refine lv_aload_n hx hb dL_law_1833 rfl (lv_at hl 1 rfl) ?_
  refine lv_iload hx hb dL_law_1834 (lv_at hl 5 rfl) ?_
  refine lv_iconst (v := 2) hx hb dL_law_1836 (by decide) ?_
  refine lv_iadd hx hb dL_law_1837 ?_
  refine ow_topi (y := 2) (by decide) ?_
  refine va_sld hx hb hX hbl hbA hS (vp_in_nI (n := 2) (N := 6) (by decide) (by decide)) dL_law_1838 ?_
  refine ow_topi (y := xs 2) (congrArg xs (by decide)) ?_
  have hPc := hP.sub (ws' := [(y, .inr (16, v.1)), ((v.2 1), .inl (cI, 1280, .inl (fun _ => 0)))]) [3, 4] rfl
  have hDc := hD.sub (ws' := [(y, .inr (16, v.1)), ((v.2 1), .inl (cI, 1280, .inl (fun _ => 0)))]) [3, 4] (by decide) rfl
  have hFc := va_free (wc := [(y, .inr (16, v.1)), ((v.2 1), .inl (cI, 1280, .inl (fun _ => 0)))]) hD hS hA [3, 4] rfl
  refine va_calll (va_runV (As := [.int (xs 1), .int (xs 2)]) (rest := []) ⟨hx, hb, hml, hown, hts⟩ (kf_X13_colours l dC dI cI cB cJ cZ y (v.2 1) H.size v.1 hv.1 (hv.2.at 20 rfl) (xs 1) (xs 2)) (cwV 2 hts gw_X13_colours rfl rfl rfl (by decide +kernel) ⟨(Nat.le_of_ble_eq_true rfl), (Nat.le_of_ble_eq_true rfl)⟩) ⟨fun a U g mk q => by obtain ⟨q0, q1, qP, qK, qD⟩ := q; exact ⟨q0, q1, qP, va_K.moved (u := U) (U := U.calling g mk a) (Vm.Alike.refl U.vm) qK, qD⟩, va_recv hK hPc (ci := 16) (q0 := 0) rfl rfl, fun U hU hW => ⟨rfl, by rw [hU], by rw [hU]; exact hPc, va_K.moved hW.alike hK, hDc.weaken (fun _ _ _ _ => trivial)⟩⟩ rfl rfl hl.1 rfl (lv_room (Nat.le_of_ble_eq_true rfl)) dL_law_1839 ⟨(Nat.le_of_ble_eq_true rfl), (Nat.le_of_ble_eq_true rfl)⟩) hS (fun q _ h => hFc q h) hFc (fun r9 g9 t H1 locs ht hvm hw hB hz1 hk1 hS => ?_)
  obtain ⟨hP1, hD1⟩ := hB
  rw [ht] at hP1
  obtain ⟨hP, hD⟩ := va_join (wr := [(x, .inr (14, [.ref (u 0), .ref (u 1), .ref (u 2), .ref (u 3), .ref (u 4), .ref (u 5), .ref (u 6), .ref (u 7), .ref (u 8), .ref (u 9), .ref (u 10), .ref (u 11), .ref (u 12), .ref (u 13), .ref (u 14), .ref (u 15), .ref (u 16), .ref (u 17), .ref (u 18)])), ((u 0), .inr (6, [.ref (u 19), .ref (u 20), .ref (u 21), .ref (u 22), .int 0])), ((u 20), .inl (cB, 40, .inl (fun _ => 0))), (qo, .inl (cJ, 1, .inr (.inl (fun _ => 0))))]) (w1 := [(y, .inr (16, g9))]) hP hD [3, 4] [0, 1, 2, 5] rfl rfl (by decide) (by decide) hk1 hFc hP1 hD1
  generalize H1 = H at hP hS ⊢
  have hP : va_P (dC, dI) vwCl [(x, .inr (14, [.ref (u 0), .ref (u 1), .ref (u 2), .ref (u 3), .ref (u 4), .ref (u 5), .ref (u 6), .ref (u 7), .ref (u 8), .ref (u 9), .ref (u 10), .ref (u 11), .ref (u 12), .ref (u 13), .ref (u 14), .ref (u 15), .ref (u 16), .ref (u 17), .ref (u 18)])), ((u 0), .inr (6, [.ref (u 19), .ref (u 20), .ref (u 21), .ref (u 22), .int 0])), ((u 20), .inl (cB, 40, .inl (fun _ => 0))), (qo, .inl (cJ, 1, .inr (.inl (fun _ => 0)))), (y, .inr (16, g9))] H := hP
  have hD : va_D (fun q : Nat => s.heap.size ≤ q) [(x, .inr (14, [.ref (u 0), .ref (u 1), .ref (u 2), .ref (u 3), .ref (u 4), .ref (u 5), .ref (u 6), .ref (u 7), .ref (u 8), .ref (u 9), .ref (u 10), .ref (u 11), .ref (u 12), .ref (u 13), .ref (u 14), .ref (u 15), .ref (u 16), .ref (u 17), .ref (u 18)])), ((u 0), .inr (6, [.ref (u 19), .ref (u 20), .ref (u 21), .ref (u 22), .int 0])), ((u 20), .inl (cB, 40, .inl (fun _ => 0))), (qo, .inl (cJ, 1, .inr (.inl (fun _ => 0)))), (y, .inr (16, g9))] := hD
  obtain ⟨hr9, hg0⟩ := hw
  subst hr9
  refine lv_lstore (lv' := [(6, .long 0), (5, .int 1), (0, .ref b), (1, .ref x), (2, .ref y), (3, .ref qo), (4, .int 0)]) hx hb dL_law_1842 hl (by decide) rfl (fun ls hl => ?_)
  refine lv_aload_n hx hb dL_law_1844 rfl (lv_at hl 4 rfl) ?_
  have hPc := hP.sub (ws' := [(y, .inr (16, g9))]) [4] rfl
  refine va_calli (va_runV (As := []) (rest := []) ⟨hx, hb, hml, hown, hts⟩ (kf_X13_thrownN l dC dI cI cB cJ cZ y g9 1 hg0) (cwV 0 hts gw_X13_thrown rfl rfl rfl (by decide +kernel) ⟨(Nat.le_of_ble_eq_true rfl), (Nat.le_of_ble_eq_true rfl)⟩) ⟨fun a U g mk q => by obtain ⟨q0, qP, qK⟩ := q; exact ⟨q0, qP, va_K.moved (u := U) (U := U.calling g mk a) (Vm.Alike.refl U.vm) qK⟩, va_recv hK hPc (ci := 16) (q0 := 0) rfl rfl, fun U hU hW => ⟨rfl, by rw [hU]; exact hPc, va_K.moved hW.alike hK⟩⟩ rfl rfl hl.1 rfl (lv_room (Nat.le_of_ble_eq_true rfl)) dL_law_1845 ⟨(Nat.le_of_ble_eq_true rfl), (Nat.le_of_ble_eq_true rfl)⟩) hS (fun q _ h => h.elim) (fun q h => h.elim) (fun r8 un t H1 locs ht hvm hw8 hB hz1 hk1 hS => ?_)
  obtain rfl : r8 = 1 := hw8
  have hP := hP.kept (fun k9 x9 h9 => hk1 x9.1 ((hP k9 x9 h9).lt) id)
  generalize H1 = H at hP hS ⊢
  refine lv_iload hx hb dL_law_1848 (lv_at hl 1 rfl) ?_
  refine lv_icmp_eq (tgt := 1855) hx hb dL_law_1850 (by decide) (fun _ => ?_) (fun c9 => absurd (rfl) c9)
  refine lv_iload hx hb dL_law_1855 (lv_at hl 1 rfl) ?_
  refine lv_if_ne (tgt := 1871) hx hb dL_law_1857 (by decide) (fun _ => ?_) (fun c9 => absurd c9 (by decide))
  refine lv_goto (tgt := 2616) hx hb dL_law_1871 (by decide) ?_
  exact lc_fin C0 hS (lv_sub hl [2, 6] rfl) (Nat.le_of_ble_eq_true rfl) (Nat.le_of_ble_eq_true rfl)
theorem dL_law_1874 : decode cL_law 1874 = .ok (.aload_n 1, 1) := by decide +kernel
theorem dL_law_1875 : decode cL_law 1875 = .ok (.aload_n 0, 1) := by decide +kernel
theorem dL_law_1876 : decode cL_law 1876 = .ok (.iload 4, 2) := by decide +kernel
theorem dL_law_1878 : decode cL_law 1878 = .ok (.iconst 1, 1) := by decide +kernel
theorem dL_law_1879 : decode cL_law 1879 = .ok (.iadd, 1) := by decide +kernel
theorem dL_law_1880 : decode cL_law 1880 = .ok (.iaload, 1) := by decide +kernel
theorem dL_law_1881 : decode cL_law 1881 = .ok (.aload_n 0, 1) := by decide +kernel
theorem dL_law_1882 : decode cL_law 1882 = .ok (.iload 4, 2) := by decide +kernel
theorem dL_law_1884 : decode cL_law 1884 = .ok (.iconst 2, 1) := by decide +kernel
theorem dL_law_1885 : decode cL_law 1885 = .ok (.iadd, 1) := by decide +kernel
theorem dL_law_1886 : decode cL_law 1886 = .ok (.iaload, 1) := by decide +kernel
theorem dL_law_1887 : decode cL_law 1887 = .ok (.aload_n 3, 1) := by decide +kernel
theorem dL_law_1888 : decode cL_law 1888 = .ok (.invokestatic 229, 3) := by decide +kernel
theorem dL_law_1891 : decode cL_law 1891 = .ok (.istore 5, 2) := by decide +kernel
theorem dL_law_1893 : decode cL_law 1893 = .ok (.aload_n 2, 1) := by decide +kernel
theorem dL_law_1894 : decode cL_law 1894 = .ok (.aload_n 0, 1) := by decide +kernel
theorem dL_law_1895 : decode cL_law 1895 = .ok (.iload 4, 2) := by decide +kernel
theorem dL_law_1897 : decode cL_law 1897 = .ok (.iconst 1, 1) := by decide +kernel
theorem dL_law_1898 : decode cL_law 1898 = .ok (.iadd, 1) := by decide +kernel
theorem dL_law_1899 : decode cL_law 1899 = .ok (.iaload, 1) := by decide +kernel
theorem dL_law_1900 : decode cL_law 1900 = .ok (.aload_n 0, 1) := by decide +kernel
theorem dL_law_1901 : decode cL_law 1901 = .ok (.iload 4, 2) := by decide +kernel
theorem dL_law_1903 : decode cL_law 1903 = .ok (.iconst 2, 1) := by decide +kernel
theorem dL_law_1904 : decode cL_law 1904 = .ok (.iadd, 1) := by decide +kernel
theorem dL_law_1905 : decode cL_law 1905 = .ok (.iaload, 1) := by decide +kernel
theorem dL_law_1906 : decode cL_law 1906 = .ok (.invokevirtual 231, 3) := by decide +kernel
theorem dL_law_1909 : decode cL_law 1909 = .ok (.istore 6, 2) := by decide +kernel
theorem dL_law_1911 : decode cL_law 1911 = .ok (.aload_n 2, 1) := by decide +kernel
theorem dL_law_1912 : decode cL_law 1912 = .ok (.invokevirtual 137, 3) := by decide +kernel
theorem dL_law_1915 : decode cL_law 1915 = .ok (.iload 5, 2) := by decide +kernel
theorem dL_law_1917 : decode cL_law 1917 = .ok (.if_icmp .eq 5, 3) := by decide +kernel
theorem dL_law_1920 : decode cL_law 1920 = .ok (.iconst 0, 1) := by decide +kernel
theorem dL_law_1921 : decode cL_law 1921 = .ok (.ireturn, 1) := by decide +kernel
theorem dL_law_1922 : decode cL_law 1922 = .ok (.iload 5, 2) := by decide +kernel
theorem dL_law_1924 : decode cL_law 1924 = .ok (.ifCond .ne 15, 3) := by decide +kernel
theorem dL_law_1927 : decode cL_law 1927 = .ok (.aload_n 3, 1) := by decide +kernel
theorem dL_law_1928 : decode cL_law 1928 = .ok (.iconst 0, 1) := by decide +kernel
theorem dL_law_1929 : decode cL_law 1929 = .ok (.laload, 1) := by decide +kernel
theorem dL_law_1930 : decode cL_law 1930 = .ok (.iload 6, 2) := by decide +kernel
theorem dL_law_1932 : decode cL_law 1932 = .ok (.i2l, 1) := by decide +kernel
theorem dL_law_1933 : decode cL_law 1933 = .ok (.lcmp, 1) := by decide +kernel
theorem dL_law_1934 : decode cL_law 1934 = .ok (.ifCond .eq 5, 3) := by decide +kernel
theorem dL_law_1937 : decode cL_law 1937 = .ok (.iconst 0, 1) := by decide +kernel
theorem dL_law_1938 : decode cL_law 1938 = .ok (.ireturn, 1) := by decide +kernel
theorem dL_law_1939 : decode cL_law 1939 = .ok (.goto 677, 3) := by decide +kernel
set_option maxHeartbeats 4000000 in
set_option maxRecDepth 100000 in
theorem lc_maps {p : Program} {l : Launch} {e : Env} {s : State} {m : MethodId} {below : List Frame} {meth : Method} {c : Code} {b : Nat} {xs : Nat → Int32} {dC : Nat → ClassId} {dI : Nat → Nat → Nat} {cI cB cJ cZ : ClassId} {sa : Nat → Nat} (C0 : lw_At p s m meth c b 6 xs) (hG : ow_LG l s dC dI cI cB cJ cZ sa) {x y qo : Nat} {u : Nat → Nat} {v : List Value × (Nat → Nat)} (hv : kn_X13_init v) {H : Heap} {locs : List Loc} {ls : Array Slot} (hP : va_P (dC, dI) vwCl (wd_X11_init cI cB cJ x u ++ (wd_X13_init cI cB y v ++ [(qo, .inl (cJ, 1, .inr (.inl (fun _ => 0))))])) H) (hD : va_D (fun q : Nat => s.heap.size ≤ q) (wd_X11_init cI cB cJ x u ++ (wd_X13_init cI cB y v ++ [(qo, .inl (cJ, 1, .inr (.inl (fun _ => 0))))]))) (hS : va_S (fun q : Nat => s.heap.size ≤ q) s.heap H locs) (hl : lv_has ls 8 [(0, .ref b), (1, .ref x), (2, .ref y), (3, .ref qo), (4, .int 0)]) : W p l e room_1 s m #[Value.ref b] below meth c H locs 694 1334208 (lw_Z below #[Value.ref b] s) (F0 m 1874 ls []) := by
  obtain ⟨hx, hb, hr, hml, hown, hts, hX, hbl, hlocks, hgv⟩ := id C0
  have hown : s.vm.findClass RL = some m.cls := hown
  have hA : ∀ q : Nat, s.heap.size ≤ q → (fun q : Nat => s.heap.size ≤ q) q := fun _ h => h
  have hbA : ¬ (fun q : Nat => s.heap.size ≤ q) b := Nat.not_le.mpr hbl
  have hK := hG.2.1
  have hP := hP.sub (ws' := [(x, .inr (14, [.ref (u 0), .ref (u 1), .ref (u 2), .ref (u 3), .ref (u 4), .ref (u 5), .ref (u 6), .ref (u 7), .ref (u 8), .ref (u 9), .ref (u 10), .ref (u 11), .ref (u 12), .ref (u 13), .ref (u 14), .ref (u 15), .ref (u 16), .ref (u 17), .ref (u 18)])), ((u 0), .inr (6, [.ref (u 19), .ref (u 20), .ref (u 21), .ref (u 22), .int 0])), ((u 20), .inl (cB, 40, .inl (fun _ => 0))), (y, .inr (16, v.1)), ((v.2 1), .inl (cI, 1280, .inl (fun _ => 0))), (qo, .inl (cJ, 1, .inr (.inl (fun _ => 0))))]) [0, 1, 3, 60, 62, 71] rfl
  have hD := hD.sub (ws' := [(x, .inr (14, [.ref (u 0), .ref (u 1), .ref (u 2), .ref (u 3), .ref (u 4), .ref (u 5), .ref (u 6), .ref (u 7), .ref (u 8), .ref (u 9), .ref (u 10), .ref (u 11), .ref (u 12), .ref (u 13), .ref (u 14), .ref (u 15), .ref (u 16), .ref (u 17), .ref (u 18)])), ((u 0), .inr (6, [.ref (u 19), .ref (u 20), .ref (u 21), .ref (u 22), .int 0])), ((u 20), .inl (cB, 40, .inl (fun _ => 0))), (y, .inr (16, v.1)), ((v.2 1), .inl (cI, 1280, .inl (fun _ => 0))), (qo, .inl (cJ, 1, .inr (.inl (fun _ => 0))))]) [0, 1, 3, 60, 62, 71] (by decide) rfl
  refine lv_aload_n hx hb dL_law_1874 rfl (lv_at hl 1 rfl) ?_
  refine lv_aload_n hx hb dL_law_1875 rfl (lv_at hl 0 rfl) ?_
  refine lv_iload hx hb dL_law_1876 (lv_at hl 4 rfl) ?_
  refine lv_iconst (v := 1) hx hb dL_law_1878 (by decide) ?_
  refine lv_iadd hx hb dL_law_1879 ?_
  refine ow_topi (y := 1) (by decide) ?_
  refine va_sld hx hb hX hbl hbA hS (vp_in_nI (n := 1) (N := 6) (by decide) (by decide)) dL_law_1880 ?_
  refine ow_topi (y := xs 1) (congrArg xs (by decide)) ?_
  refine lv_aload_n hx hb dL_law_1881 rfl (lv_at hl 0 rfl) ?_
  refine lv_iload hx hb dL_law_1882 (lv_at hl 4 rfl) ?_
  refine lv_iconst (v := 2) hx hb dL_law_1884 (by decide) ?_
  refine lv_iadd hx hb dL_law_1885 ?_
  refine ow_topi (y := 2) (by decide) ?_
  refine va_sld hx hb hX hbl hbA hS (vp_in_nI (n := 2) (N := 6) (by decide) (by decide)) dL_law_1886 ?_
  refine ow_topi (y := xs 2) (congrArg xs (by decide)) ?_
  refine lv_aload_n hx hb dL_law_1887 rfl (lv_at hl 3 rfl) ?_
  have hPc := hP.sub (ws' := [(x, .inr (14, [.ref (u 0), .ref (u 1), .ref (u 2), .ref (u 3), .ref (u 4), .ref (u 5), .ref (u 6), .ref (u 7), .ref (u 8), .ref (u 9), .ref (u 10), .ref (u 11), .ref (u 12), .ref (u 13), .ref (u 14), .ref (u 15), .ref (u 16), .ref (u 17), .ref (u 18)])), ((u 0), .inr (6, [.ref (u 19), .ref (u 20), .ref (u 21), .ref (u 22), .int 0])), ((u 20), .inl (cB, 40, .inl (fun _ => 0)))]) [0, 1, 2] rfl
  refine vx_calli (vx_runSX (As := [.ref x, .int (xs 1), .int (xs 2), .ref qo]) (rest := []) ⟨hx, hb, hml, hown, hts⟩ (kf_L_maps l dC dI cI cB cJ cZ hG.1 x (sa 0) qo u (xs 1) (xs 2)) (vx_cwSW 4 hts gw_L_maps rfl rfl rfl (by decide +kernel) ⟨(Nat.le_of_ble_eq_true rfl), (Nat.le_of_ble_eq_true rfl)⟩) ⟨fun a U g mk q => by obtain ⟨q0, qP, qK, qT⟩ := q; exact ⟨q0, qP, va_K.moved (u := U) (U := U.calling g mk a) (Vm.Alike.refl U.vm) qK, qT.same rfl rfl⟩, fun U hU hW => ⟨rfl, by rw [hU]; exact hPc, va_K.moved hW.alike hK, (hG.2.2.2.1).to hS hW hU (fun q h => h.elim)⟩⟩ rfl rfl hl.1 rfl (lv_room (Nat.le_of_ble_eq_true rfl)) dL_law_1888 ⟨(Nat.le_of_ble_eq_true rfl), (Nat.le_of_ble_eq_true rfl)⟩) hS (fun q _ h => h.elim) (fun q h => h.elim) (fun q _ h => h.elim) (fun E ce q9 u9 t H1 locs1 ht hvm hp hB hz hk hS hce hcv hcl => hp.elim) (fun r7 g7 t H1 locs ht hvm hw hB hz1 hk1 hS => ?_)
  obtain rfl : r7 = 1 := hw
  have hP := hP.kept (fun k9 x9 h9 => hk1 x9.1 ((hP k9 x9 h9).lt) id)
  generalize H1 = H at hP hS ⊢
  refine W.widen (k := 695) (n := 1334214) (Nat.le_of_ble_eq_true rfl) (Nat.le_of_ble_eq_true rfl) ?_
  refine lv_istore (lv' := [(5, .int 1), (0, .ref b), (1, .ref x), (2, .ref y), (3, .ref qo), (4, .int 0)]) hx hb dL_law_1891 hl (by decide) rfl (fun ls hl => ?_)
  refine lv_aload_n hx hb dL_law_1893 rfl (lv_at hl 3 rfl) ?_
  refine lv_aload_n hx hb dL_law_1894 rfl (lv_at hl 1 rfl) ?_
  refine lv_iload hx hb dL_law_1895 (lv_at hl 5 rfl) ?_
  refine lv_iconst (v := 1) hx hb dL_law_1897 (by decide) ?_
  refine lv_iadd hx hb dL_law_1898 ?_
  refine ow_topi (y := 1) (by decide) ?_
  refine va_sld hx hb hX hbl hbA hS (vp_in_nI (n := 1) (N := 6) (by decide) (by decide)) dL_law_1899 ?_
  refine ow_topi (y := xs 1) (congrArg xs (by decide)) ?_
  refine lv_aload_n hx hb dL_law_1900 rfl (lv_at hl 1 rfl) ?_
  refine lv_iload hx hb dL_law_1901 (lv_at hl 5 rfl) ?_
  refine lv_iconst (v := 2) hx hb dL_law_1903 (by decide) ?_
  refine lv_iadd hx hb dL_law_1904 ?_
  refine ow_topi (y := 2) (by decide) ?_
  refine va_sld hx hb hX hbl hbA hS (vp_in_nI (n := 2) (N := 6) (by decide) (by decide)) dL_law_1905 ?_
  refine ow_topi (y := xs 2) (congrArg xs (by decide)) ?_
  have hPc := hP.sub (ws' := [(y, .inr (16, v.1)), ((v.2 1), .inl (cI, 1280, .inl (fun _ => 0)))]) [3, 4] rfl
  have hDc := hD.sub (ws' := [(y, .inr (16, v.1)), ((v.2 1), .inl (cI, 1280, .inl (fun _ => 0)))]) [3, 4] (by decide) rfl
  have hFc := va_free (wc := [(y, .inr (16, v.1)), ((v.2 1), .inl (cI, 1280, .inl (fun _ => 0)))]) hD hS hA [3, 4] rfl
  refine va_calli (va_runV (As := [.int (xs 1), .int (xs 2)]) (rest := []) ⟨hx, hb, hml, hown, hts⟩ (kf_X13_maps l dC dI cI cB cJ cZ y (v.2 1) H.size v.1 hv.1 (hv.2.at 20 rfl) (xs 1) (xs 2)) (cwV 2 hts gw_X13_maps rfl rfl rfl (by decide +kernel) ⟨(Nat.le_of_ble_eq_true rfl), (Nat.le_of_ble_eq_true rfl)⟩) ⟨fun a U g mk q => by obtain ⟨q0, q1, qP, qK, qD⟩ := q; exact ⟨q0, q1, qP, va_K.moved (u := U) (U := U.calling g mk a) (Vm.Alike.refl U.vm) qK, qD⟩, va_recv hK hPc (ci := 16) (q0 := 0) rfl rfl, fun U hU hW => ⟨rfl, by rw [hU], by rw [hU]; exact hPc, va_K.moved hW.alike hK, hDc.weaken (fun _ _ _ _ => trivial)⟩⟩ rfl rfl hl.1 rfl (lv_room (Nat.le_of_ble_eq_true rfl)) dL_law_1906 ⟨(Nat.le_of_ble_eq_true rfl), (Nat.le_of_ble_eq_true rfl)⟩) hS (fun q _ h => hFc q h) hFc (fun r9 g9 t H1 locs ht hvm hw hB hz1 hk1 hS => ?_)
  obtain ⟨hP1, hD1⟩ := hB
  rw [ht] at hP1
  obtain ⟨hP, hD⟩ := va_join (wr := [(x, .inr (14, [.ref (u 0), .ref (u 1), .ref (u 2), .ref (u 3), .ref (u 4), .ref (u 5), .ref (u 6), .ref (u 7), .ref (u 8), .ref (u 9), .ref (u 10), .ref (u 11), .ref (u 12), .ref (u 13), .ref (u 14), .ref (u 15), .ref (u 16), .ref (u 17), .ref (u 18)])), ((u 0), .inr (6, [.ref (u 19), .ref (u 20), .ref (u 21), .ref (u 22), .int 0])), ((u 20), .inl (cB, 40, .inl (fun _ => 0))), (qo, .inl (cJ, 1, .inr (.inl (fun _ => 0))))]) (w1 := [(y, .inr (16, g9))]) hP hD [3, 4] [0, 1, 2, 5] rfl rfl (by decide) (by decide) hk1 hFc hP1 hD1
  generalize H1 = H at hP hS ⊢
  have hP : va_P (dC, dI) vwCl [(x, .inr (14, [.ref (u 0), .ref (u 1), .ref (u 2), .ref (u 3), .ref (u 4), .ref (u 5), .ref (u 6), .ref (u 7), .ref (u 8), .ref (u 9), .ref (u 10), .ref (u 11), .ref (u 12), .ref (u 13), .ref (u 14), .ref (u 15), .ref (u 16), .ref (u 17), .ref (u 18)])), ((u 0), .inr (6, [.ref (u 19), .ref (u 20), .ref (u 21), .ref (u 22), .int 0])), ((u 20), .inl (cB, 40, .inl (fun _ => 0))), (qo, .inl (cJ, 1, .inr (.inl (fun _ => 0)))), (y, .inr (16, g9))] H := hP
  have hD : va_D (fun q : Nat => s.heap.size ≤ q) [(x, .inr (14, [.ref (u 0), .ref (u 1), .ref (u 2), .ref (u 3), .ref (u 4), .ref (u 5), .ref (u 6), .ref (u 7), .ref (u 8), .ref (u 9), .ref (u 10), .ref (u 11), .ref (u 12), .ref (u 13), .ref (u 14), .ref (u 15), .ref (u 16), .ref (u 17), .ref (u 18)])), ((u 0), .inr (6, [.ref (u 19), .ref (u 20), .ref (u 21), .ref (u 22), .int 0])), ((u 20), .inl (cB, 40, .inl (fun _ => 0))), (qo, .inl (cJ, 1, .inr (.inl (fun _ => 0)))), (y, .inr (16, g9))] := hD
  obtain ⟨hr9, hg0⟩ := hw
  subst hr9
  refine lv_istore (lv' := [(6, .int 0), (5, .int 1), (0, .ref b), (1, .ref x), (2, .ref y), (3, .ref qo), (4, .int 0)]) hx hb dL_law_1909 hl (by decide) rfl (fun ls hl => ?_)
  refine lv_aload_n hx hb dL_law_1911 rfl (lv_at hl 4 rfl) ?_
  have hPc := hP.sub (ws' := [(y, .inr (16, g9))]) [4] rfl
  refine va_calli (va_runV (As := []) (rest := []) ⟨hx, hb, hml, hown, hts⟩ (kf_X13_thrownN l dC dI cI cB cJ cZ y g9 1 hg0) (cwV 0 hts gw_X13_thrown rfl rfl rfl (by decide +kernel) ⟨(Nat.le_of_ble_eq_true rfl), (Nat.le_of_ble_eq_true rfl)⟩) ⟨fun a U g mk q => by obtain ⟨q0, qP, qK⟩ := q; exact ⟨q0, qP, va_K.moved (u := U) (U := U.calling g mk a) (Vm.Alike.refl U.vm) qK⟩, va_recv hK hPc (ci := 16) (q0 := 0) rfl rfl, fun U hU hW => ⟨rfl, by rw [hU]; exact hPc, va_K.moved hW.alike hK⟩⟩ rfl rfl hl.1 rfl (lv_room (Nat.le_of_ble_eq_true rfl)) dL_law_1912 ⟨(Nat.le_of_ble_eq_true rfl), (Nat.le_of_ble_eq_true rfl)⟩) hS (fun q _ h => h.elim) (fun q h => h.elim) (fun r8 un t H1 locs ht hvm hw8 hB hz1 hk1 hS => ?_)
  obtain rfl : r8 = 1 := hw8
  have hP := hP.kept (fun k9 x9 h9 => hk1 x9.1 ((hP k9 x9 h9).lt) id)
  generalize H1 = H at hP hS ⊢
  refine lv_iload hx hb dL_law_1915 (lv_at hl 1 rfl) ?_
  refine lv_icmp_eq (tgt := 1922) hx hb dL_law_1917 (by decide) (fun _ => ?_) (fun c9 => absurd (rfl) c9)
  refine lv_iload hx hb dL_law_1922 (lv_at hl 1 rfl) ?_
  refine lv_if_ne (tgt := 1939) hx hb dL_law_1924 (by decide) (fun _ => ?_) (fun c9 => absurd c9 (by decide))
  refine lv_goto (tgt := 2616) hx hb dL_law_1939 (by decide) ?_
  exact lc_fin C0 hS (lv_sub hl [2, 6] rfl) (Nat.le_of_ble_eq_true rfl) (Nat.le_of_ble_eq_true rfl)
theorem dL_law_1942 : decode cL_law 1942 = .ok (.aload_n 1, 1) := by decide +kernel
theorem dL_law_1943 : decode cL_law 1943 = .ok (.aload_n 0, 1) := by decide +kernel
theorem dL_law_1944 : decode cL_law 1944 = .ok (.iload 4, 2) := by decide +kernel
theorem dL_law_1946 : decode cL_law 1946 = .ok (.iconst 1, 1) := by decide +kernel
theorem dL_law_1947 : decode cL_law 1947 = .ok (.iadd, 1) := by decide +kernel
theorem dL_law_1948 : decode cL_law 1948 = .ok (.iaload, 1) := by decide +kernel
theorem dL_law_1949 : decode cL_law 1949 = .ok (.aload_n 0, 1) := by decide +kernel
theorem dL_law_1950 : decode cL_law 1950 = .ok (.iload 4, 2) := by decide +kernel
theorem dL_law_1952 : decode cL_law 1952 = .ok (.iconst 2, 1) := by decide +kernel
theorem dL_law_1953 : decode cL_law 1953 = .ok (.iadd, 1) := by decide +kernel
theorem dL_law_1954 : decode cL_law 1954 = .ok (.iaload, 1) := by decide +kernel
theorem dL_law_1955 : decode cL_law 1955 = .ok (.aload_n 3, 1) := by decide +kernel
theorem dL_law_1956 : decode cL_law 1956 = .ok (.invokestatic 232, 3) := by decide +kernel
theorem dL_law_1959 : decode cL_law 1959 = .ok (.istore 5, 2) := by decide +kernel
theorem dL_law_1961 : decode cL_law 1961 = .ok (.aload_n 2, 1) := by decide +kernel
theorem dL_law_1962 : decode cL_law 1962 = .ok (.aload_n 0, 1) := by decide +kernel
theorem dL_law_1963 : decode cL_law 1963 = .ok (.iload 4, 2) := by decide +kernel
theorem dL_law_1965 : decode cL_law 1965 = .ok (.iconst 1, 1) := by decide +kernel
theorem dL_law_1966 : decode cL_law 1966 = .ok (.iadd, 1) := by decide +kernel
theorem dL_law_1967 : decode cL_law 1967 = .ok (.iaload, 1) := by decide +kernel
theorem dL_law_1968 : decode cL_law 1968 = .ok (.aload_n 0, 1) := by decide +kernel
theorem dL_law_1969 : decode cL_law 1969 = .ok (.iload 4, 2) := by decide +kernel
theorem dL_law_1971 : decode cL_law 1971 = .ok (.iconst 2, 1) := by decide +kernel
theorem dL_law_1972 : decode cL_law 1972 = .ok (.iadd, 1) := by decide +kernel
theorem dL_law_1973 : decode cL_law 1973 = .ok (.iaload, 1) := by decide +kernel
theorem dL_law_1974 : decode cL_law 1974 = .ok (.invokevirtual 234, 3) := by decide +kernel
theorem dL_law_1977 : decode cL_law 1977 = .ok (.istore 6, 2) := by decide +kernel
theorem dL_law_1979 : decode cL_law 1979 = .ok (.aload_n 2, 1) := by decide +kernel
theorem dL_law_1980 : decode cL_law 1980 = .ok (.invokevirtual 137, 3) := by decide +kernel
theorem dL_law_1983 : decode cL_law 1983 = .ok (.iload 5, 2) := by decide +kernel
theorem dL_law_1985 : decode cL_law 1985 = .ok (.if_icmp .eq 5, 3) := by decide +kernel
theorem dL_law_1988 : decode cL_law 1988 = .ok (.iconst 0, 1) := by decide +kernel
theorem dL_law_1989 : decode cL_law 1989 = .ok (.ireturn, 1) := by decide +kernel
theorem dL_law_1990 : decode cL_law 1990 = .ok (.iload 5, 2) := by decide +kernel
theorem dL_law_1992 : decode cL_law 1992 = .ok (.ifCond .ne 15, 3) := by decide +kernel
theorem dL_law_1995 : decode cL_law 1995 = .ok (.aload_n 3, 1) := by decide +kernel
theorem dL_law_1996 : decode cL_law 1996 = .ok (.iconst 0, 1) := by decide +kernel
theorem dL_law_1997 : decode cL_law 1997 = .ok (.laload, 1) := by decide +kernel
theorem dL_law_1998 : decode cL_law 1998 = .ok (.iload 6, 2) := by decide +kernel
theorem dL_law_2000 : decode cL_law 2000 = .ok (.i2l, 1) := by decide +kernel
theorem dL_law_2001 : decode cL_law 2001 = .ok (.lcmp, 1) := by decide +kernel
theorem dL_law_2002 : decode cL_law 2002 = .ok (.ifCond .eq 5, 3) := by decide +kernel
theorem dL_law_2005 : decode cL_law 2005 = .ok (.iconst 0, 1) := by decide +kernel
theorem dL_law_2006 : decode cL_law 2006 = .ok (.ireturn, 1) := by decide +kernel
theorem dL_law_2007 : decode cL_law 2007 = .ok (.goto 609, 3) := by decide +kernel
set_option maxHeartbeats 4000000 in
set_option maxRecDepth 100000 in
theorem lc_chain {p : Program} {l : Launch} {e : Env} {s : State} {m : MethodId} {below : List Frame} {meth : Method} {c : Code} {b : Nat} {xs : Nat → Int32} {dC : Nat → ClassId} {dI : Nat → Nat → Nat} {cI cB cJ cZ : ClassId} {sa : Nat → Nat} (C0 : lw_At p s m meth c b 6 xs) (hG : ow_LG l s dC dI cI cB cJ cZ sa) {x y qo : Nat} {u : Nat → Nat} {v : List Value × (Nat → Nat)} (hv : kn_X13_init v) {H : Heap} {locs : List Loc} {ls : Array Slot} (hP : va_P (dC, dI) vwCl (wd_X11_init cI cB cJ x u ++ (wd_X13_init cI cB y v ++ [(qo, .inl (cJ, 1, .inr (.inl (fun _ => 0))))])) H) (hD : va_D (fun q : Nat => s.heap.size ≤ q) (wd_X11_init cI cB cJ x u ++ (wd_X13_init cI cB y v ++ [(qo, .inl (cJ, 1, .inr (.inl (fun _ => 0))))]))) (hS : va_S (fun q : Nat => s.heap.size ≤ q) s.heap H locs) (hl : lv_has ls 8 [(0, .ref b), (1, .ref x), (2, .ref y), (3, .ref qo), (4, .int 0)]) : W p l e room_1 s m #[Value.ref b] below meth c H locs 694 1334208 (lw_Z below #[Value.ref b] s) (F0 m 1942 ls []) := by
  obtain ⟨hx, hb, hr, hml, hown, hts, hX, hbl, hlocks, hgv⟩ := id C0
  have hown : s.vm.findClass RL = some m.cls := hown
  have hA : ∀ q : Nat, s.heap.size ≤ q → (fun q : Nat => s.heap.size ≤ q) q := fun _ h => h
  have hbA : ¬ (fun q : Nat => s.heap.size ≤ q) b := Nat.not_le.mpr hbl
  have hK := hG.2.1
  have hP := hP.sub (ws' := [(x, .inr (14, [.ref (u 0), .ref (u 1), .ref (u 2), .ref (u 3), .ref (u 4), .ref (u 5), .ref (u 6), .ref (u 7), .ref (u 8), .ref (u 9), .ref (u 10), .ref (u 11), .ref (u 12), .ref (u 13), .ref (u 14), .ref (u 15), .ref (u 16), .ref (u 17), .ref (u 18)])), ((u 0), .inr (6, [.ref (u 19), .ref (u 20), .ref (u 21), .ref (u 22), .int 0])), ((u 20), .inl (cB, 40, .inl (fun _ => 0))), (y, .inr (16, v.1)), ((v.2 1), .inl (cI, 1280, .inl (fun _ => 0))), (qo, .inl (cJ, 1, .inr (.inl (fun _ => 0))))]) [0, 1, 3, 60, 62, 71] rfl
  have hD := hD.sub (ws' := [(x, .inr (14, [.ref (u 0), .ref (u 1), .ref (u 2), .ref (u 3), .ref (u 4), .ref (u 5), .ref (u 6), .ref (u 7), .ref (u 8), .ref (u 9), .ref (u 10), .ref (u 11), .ref (u 12), .ref (u 13), .ref (u 14), .ref (u 15), .ref (u 16), .ref (u 17), .ref (u 18)])), ((u 0), .inr (6, [.ref (u 19), .ref (u 20), .ref (u 21), .ref (u 22), .int 0])), ((u 20), .inl (cB, 40, .inl (fun _ => 0))), (y, .inr (16, v.1)), ((v.2 1), .inl (cI, 1280, .inl (fun _ => 0))), (qo, .inl (cJ, 1, .inr (.inl (fun _ => 0))))]) [0, 1, 3, 60, 62, 71] (by decide) rfl
  refine lv_aload_n hx hb dL_law_1942 rfl (lv_at hl 1 rfl) ?_
  refine lv_aload_n hx hb dL_law_1943 rfl (lv_at hl 0 rfl) ?_
  refine lv_iload hx hb dL_law_1944 (lv_at hl 4 rfl) ?_
  refine lv_iconst (v := 1) hx hb dL_law_1946 (by decide) ?_
  refine lv_iadd hx hb dL_law_1947 ?_
  refine ow_topi (y := 1) (by decide) ?_
  refine va_sld hx hb hX hbl hbA hS (vp_in_nI (n := 1) (N := 6) (by decide) (by decide)) dL_law_1948 ?_
  refine ow_topi (y := xs 1) (congrArg xs (by decide)) ?_
  refine lv_aload_n hx hb dL_law_1949 rfl (lv_at hl 0 rfl) ?_
  refine lv_iload hx hb dL_law_1950 (lv_at hl 4 rfl) ?_
  refine lv_iconst (v := 2) hx hb dL_law_1952 (by decide) ?_
  refine lv_iadd hx hb dL_law_1953 ?_
  refine ow_topi (y := 2) (by decide) ?_
  refine va_sld hx hb hX hbl hbA hS (vp_in_nI (n := 2) (N := 6) (by decide) (by decide)) dL_law_1954 ?_
  refine ow_topi (y := xs 2) (congrArg xs (by decide)) ?_
  refine lv_aload_n hx hb dL_law_1955 rfl (lv_at hl 3 rfl) ?_
  have hPc := hP.sub (ws' := [(x, .inr (14, [.ref (u 0), .ref (u 1), .ref (u 2), .ref (u 3), .ref (u 4), .ref (u 5), .ref (u 6), .ref (u 7), .ref (u 8), .ref (u 9), .ref (u 10), .ref (u 11), .ref (u 12), .ref (u 13), .ref (u 14), .ref (u 15), .ref (u 16), .ref (u 17), .ref (u 18)])), ((u 0), .inr (6, [.ref (u 19), .ref (u 20), .ref (u 21), .ref (u 22), .int 0])), ((u 20), .inl (cB, 40, .inl (fun _ => 0)))]) [0, 1, 2] rfl
  refine vx_calli (vx_runSX (As := [.ref x, .int (xs 1), .int (xs 2), .ref qo]) (rest := []) ⟨hx, hb, hml, hown, hts⟩ (kf_L_chain l dC dI cI cB cJ cZ hG.1 x (sa 0) qo u (xs 1) (xs 2)) (vx_cwSW 4 hts gw_L_chain rfl rfl rfl (by decide +kernel) ⟨(Nat.le_of_ble_eq_true rfl), (Nat.le_of_ble_eq_true rfl)⟩) ⟨fun a U g mk q => by obtain ⟨q0, qP, qK, qT⟩ := q; exact ⟨q0, qP, va_K.moved (u := U) (U := U.calling g mk a) (Vm.Alike.refl U.vm) qK, qT.same rfl rfl⟩, fun U hU hW => ⟨rfl, by rw [hU]; exact hPc, va_K.moved hW.alike hK, (hG.2.2.2.1).to hS hW hU (fun q h => h.elim)⟩⟩ rfl rfl hl.1 rfl (lv_room (Nat.le_of_ble_eq_true rfl)) dL_law_1956 ⟨(Nat.le_of_ble_eq_true rfl), (Nat.le_of_ble_eq_true rfl)⟩) hS (fun q _ h => h.elim) (fun q h => h.elim) (fun q _ h => h.elim) (fun E ce q9 u9 t H1 locs1 ht hvm hp hB hz hk hS hce hcv hcl => hp.elim) (fun r7 g7 t H1 locs ht hvm hw hB hz1 hk1 hS => ?_)
  obtain rfl : r7 = 1 := hw
  have hP := hP.kept (fun k9 x9 h9 => hk1 x9.1 ((hP k9 x9 h9).lt) id)
  generalize H1 = H at hP hS ⊢
  refine W.widen (k := 695) (n := 1334214) (Nat.le_of_ble_eq_true rfl) (Nat.le_of_ble_eq_true rfl) ?_
  refine lv_istore (lv' := [(5, .int 1), (0, .ref b), (1, .ref x), (2, .ref y), (3, .ref qo), (4, .int 0)]) hx hb dL_law_1959 hl (by decide) rfl (fun ls hl => ?_)
  refine lv_aload_n hx hb dL_law_1961 rfl (lv_at hl 3 rfl) ?_
  refine lv_aload_n hx hb dL_law_1962 rfl (lv_at hl 1 rfl) ?_
  refine lv_iload hx hb dL_law_1963 (lv_at hl 5 rfl) ?_
  refine lv_iconst (v := 1) hx hb dL_law_1965 (by decide) ?_
  refine lv_iadd hx hb dL_law_1966 ?_
  refine ow_topi (y := 1) (by decide) ?_
  refine va_sld hx hb hX hbl hbA hS (vp_in_nI (n := 1) (N := 6) (by decide) (by decide)) dL_law_1967 ?_
  refine ow_topi (y := xs 1) (congrArg xs (by decide)) ?_
  refine lv_aload_n hx hb dL_law_1968 rfl (lv_at hl 1 rfl) ?_
  refine lv_iload hx hb dL_law_1969 (lv_at hl 5 rfl) ?_
  refine lv_iconst (v := 2) hx hb dL_law_1971 (by decide) ?_
  refine lv_iadd hx hb dL_law_1972 ?_
  refine ow_topi (y := 2) (by decide) ?_
  refine va_sld hx hb hX hbl hbA hS (vp_in_nI (n := 2) (N := 6) (by decide) (by decide)) dL_law_1973 ?_
  refine ow_topi (y := xs 2) (congrArg xs (by decide)) ?_
  have hPc := hP.sub (ws' := [(y, .inr (16, v.1)), ((v.2 1), .inl (cI, 1280, .inl (fun _ => 0)))]) [3, 4] rfl
  have hDc := hD.sub (ws' := [(y, .inr (16, v.1)), ((v.2 1), .inl (cI, 1280, .inl (fun _ => 0)))]) [3, 4] (by decide) rfl
  have hFc := va_free (wc := [(y, .inr (16, v.1)), ((v.2 1), .inl (cI, 1280, .inl (fun _ => 0)))]) hD hS hA [3, 4] rfl
  refine va_calli (va_runV (As := [.int (xs 1), .int (xs 2)]) (rest := []) ⟨hx, hb, hml, hown, hts⟩ (kf_X13_chain l dC dI cI cB cJ cZ y (v.2 1) H.size v.1 hv.1 (hv.2.at 20 rfl) (xs 1) (xs 2)) (cwV 2 hts gw_X13_chain rfl rfl rfl (by decide +kernel) ⟨(Nat.le_of_ble_eq_true rfl), (Nat.le_of_ble_eq_true rfl)⟩) ⟨fun a U g mk q => by obtain ⟨q0, q1, qP, qK, qD⟩ := q; exact ⟨q0, q1, qP, va_K.moved (u := U) (U := U.calling g mk a) (Vm.Alike.refl U.vm) qK, qD⟩, va_recv hK hPc (ci := 16) (q0 := 0) rfl rfl, fun U hU hW => ⟨rfl, by rw [hU], by rw [hU]; exact hPc, va_K.moved hW.alike hK, hDc.weaken (fun _ _ _ _ => trivial)⟩⟩ rfl rfl hl.1 rfl (lv_room (Nat.le_of_ble_eq_true rfl)) dL_law_1974 ⟨(Nat.le_of_ble_eq_true rfl), (Nat.le_of_ble_eq_true rfl)⟩) hS (fun q _ h => hFc q h) hFc (fun r9 g9 t H1 locs ht hvm hw hB hz1 hk1 hS => ?_)
  obtain ⟨hP1, hD1⟩ := hB
  rw [ht] at hP1
  obtain ⟨hP, hD⟩ := va_join (wr := [(x, .inr (14, [.ref (u 0), .ref (u 1), .ref (u 2), .ref (u 3), .ref (u 4), .ref (u 5), .ref (u 6), .ref (u 7), .ref (u 8), .ref (u 9), .ref (u 10), .ref (u 11), .ref (u 12), .ref (u 13), .ref (u 14), .ref (u 15), .ref (u 16), .ref (u 17), .ref (u 18)])), ((u 0), .inr (6, [.ref (u 19), .ref (u 20), .ref (u 21), .ref (u 22), .int 0])), ((u 20), .inl (cB, 40, .inl (fun _ => 0))), (qo, .inl (cJ, 1, .inr (.inl (fun _ => 0))))]) (w1 := [(y, .inr (16, g9))]) hP hD [3, 4] [0, 1, 2, 5] rfl rfl (by decide) (by decide) hk1 hFc hP1 hD1
  generalize H1 = H at hP hS ⊢
  have hP : va_P (dC, dI) vwCl [(x, .inr (14, [.ref (u 0), .ref (u 1), .ref (u 2), .ref (u 3), .ref (u 4), .ref (u 5), .ref (u 6), .ref (u 7), .ref (u 8), .ref (u 9), .ref (u 10), .ref (u 11), .ref (u 12), .ref (u 13), .ref (u 14), .ref (u 15), .ref (u 16), .ref (u 17), .ref (u 18)])), ((u 0), .inr (6, [.ref (u 19), .ref (u 20), .ref (u 21), .ref (u 22), .int 0])), ((u 20), .inl (cB, 40, .inl (fun _ => 0))), (qo, .inl (cJ, 1, .inr (.inl (fun _ => 0)))), (y, .inr (16, g9))] H := hP
  have hD : va_D (fun q : Nat => s.heap.size ≤ q) [(x, .inr (14, [.ref (u 0), .ref (u 1), .ref (u 2), .ref (u 3), .ref (u 4), .ref (u 5), .ref (u 6), .ref (u 7), .ref (u 8), .ref (u 9), .ref (u 10), .ref (u 11), .ref (u 12), .ref (u 13), .ref (u 14), .ref (u 15), .ref (u 16), .ref (u 17), .ref (u 18)])), ((u 0), .inr (6, [.ref (u 19), .ref (u 20), .ref (u 21), .ref (u 22), .int 0])), ((u 20), .inl (cB, 40, .inl (fun _ => 0))), (qo, .inl (cJ, 1, .inr (.inl (fun _ => 0)))), (y, .inr (16, g9))] := hD
  obtain ⟨hr9, hg0⟩ := hw
  subst hr9
  refine lv_istore (lv' := [(6, .int 0), (5, .int 1), (0, .ref b), (1, .ref x), (2, .ref y), (3, .ref qo), (4, .int 0)]) hx hb dL_law_1977 hl (by decide) rfl (fun ls hl => ?_)
  refine lv_aload_n hx hb dL_law_1979 rfl (lv_at hl 4 rfl) ?_
  have hPc := hP.sub (ws' := [(y, .inr (16, g9))]) [4] rfl
  refine va_calli (va_runV (As := []) (rest := []) ⟨hx, hb, hml, hown, hts⟩ (kf_X13_thrownN l dC dI cI cB cJ cZ y g9 1 hg0) (cwV 0 hts gw_X13_thrown rfl rfl rfl (by decide +kernel) ⟨(Nat.le_of_ble_eq_true rfl), (Nat.le_of_ble_eq_true rfl)⟩) ⟨fun a U g mk q => by obtain ⟨q0, qP, qK⟩ := q; exact ⟨q0, qP, va_K.moved (u := U) (U := U.calling g mk a) (Vm.Alike.refl U.vm) qK⟩, va_recv hK hPc (ci := 16) (q0 := 0) rfl rfl, fun U hU hW => ⟨rfl, by rw [hU]; exact hPc, va_K.moved hW.alike hK⟩⟩ rfl rfl hl.1 rfl (lv_room (Nat.le_of_ble_eq_true rfl)) dL_law_1980 ⟨(Nat.le_of_ble_eq_true rfl), (Nat.le_of_ble_eq_true rfl)⟩) hS (fun q _ h => h.elim) (fun q h => h.elim) (fun r8 un t H1 locs ht hvm hw8 hB hz1 hk1 hS => ?_)
  obtain rfl : r8 = 1 := hw8
  have hP := hP.kept (fun k9 x9 h9 => hk1 x9.1 ((hP k9 x9 h9).lt) id)
  generalize H1 = H at hP hS ⊢
  refine lv_iload hx hb dL_law_1983 (lv_at hl 1 rfl) ?_
  refine lv_icmp_eq (tgt := 1990) hx hb dL_law_1985 (by decide) (fun _ => ?_) (fun c9 => absurd (rfl) c9)
  refine lv_iload hx hb dL_law_1990 (lv_at hl 1 rfl) ?_
  refine lv_if_ne (tgt := 2007) hx hb dL_law_1992 (by decide) (fun _ => ?_) (fun c9 => absurd c9 (by decide))
  refine lv_goto (tgt := 2616) hx hb dL_law_2007 (by decide) ?_
  exact lc_fin C0 hS (lv_sub hl [2, 6] rfl) (Nat.le_of_ble_eq_true rfl) (Nat.le_of_ble_eq_true rfl)
theorem dL_law_2010 : decode cL_law 2010 = .ok (.aload_n 1, 1) := by decide +kernel
theorem dL_law_2011 : decode cL_law 2011 = .ok (.aload_n 0, 1) := by decide +kernel
theorem dL_law_2012 : decode cL_law 2012 = .ok (.iload 4, 2) := by decide +kernel
theorem dL_law_2014 : decode cL_law 2014 = .ok (.iconst 1, 1) := by decide +kernel
theorem dL_law_2015 : decode cL_law 2015 = .ok (.iadd, 1) := by decide +kernel
theorem dL_law_2016 : decode cL_law 2016 = .ok (.iaload, 1) := by decide +kernel
theorem dL_law_2017 : decode cL_law 2017 = .ok (.aload_n 0, 1) := by decide +kernel
theorem dL_law_2018 : decode cL_law 2018 = .ok (.iload 4, 2) := by decide +kernel
theorem dL_law_2020 : decode cL_law 2020 = .ok (.iconst 2, 1) := by decide +kernel
theorem dL_law_2021 : decode cL_law 2021 = .ok (.iadd, 1) := by decide +kernel
theorem dL_law_2022 : decode cL_law 2022 = .ok (.iaload, 1) := by decide +kernel
theorem dL_law_2023 : decode cL_law 2023 = .ok (.invokevirtual 235, 3) := by decide +kernel
theorem dL_law_2026 : decode cL_law 2026 = .ok (.aload_n 2, 1) := by decide +kernel
theorem dL_law_2027 : decode cL_law 2027 = .ok (.aload_n 0, 1) := by decide +kernel
theorem dL_law_2028 : decode cL_law 2028 = .ok (.iload 4, 2) := by decide +kernel
theorem dL_law_2030 : decode cL_law 2030 = .ok (.iconst 1, 1) := by decide +kernel
theorem dL_law_2031 : decode cL_law 2031 = .ok (.iadd, 1) := by decide +kernel
theorem dL_law_2032 : decode cL_law 2032 = .ok (.iaload, 1) := by decide +kernel
theorem dL_law_2033 : decode cL_law 2033 = .ok (.aload_n 0, 1) := by decide +kernel
theorem dL_law_2034 : decode cL_law 2034 = .ok (.iload 4, 2) := by decide +kernel
theorem dL_law_2036 : decode cL_law 2036 = .ok (.iconst 2, 1) := by decide +kernel
theorem dL_law_2037 : decode cL_law 2037 = .ok (.iadd, 1) := by decide +kernel
theorem dL_law_2038 : decode cL_law 2038 = .ok (.iaload, 1) := by decide +kernel
theorem dL_law_2039 : decode cL_law 2039 = .ok (.invokevirtual 238, 3) := by decide +kernel
theorem dL_law_2042 : decode cL_law 2042 = .ok (.if_icmp .eq 574, 3) := by decide +kernel
theorem dL_law_2045 : decode cL_law 2045 = .ok (.iconst 0, 1) := by decide +kernel
theorem dL_law_2046 : decode cL_law 2046 = .ok (.ireturn, 1) := by decide +kernel
set_option maxHeartbeats 4000000 in
set_option maxRecDepth 100000 in
theorem lc_rank {p : Program} {l : Launch} {e : Env} {s : State} {m : MethodId} {below : List Frame} {meth : Method} {c : Code} {b : Nat} {xs : Nat → Int32} {dC : Nat → ClassId} {dI : Nat → Nat → Nat} {cI cB cJ cZ : ClassId} {sa : Nat → Nat} (C0 : lw_At p s m meth c b 6 xs) (hG : ow_LG l s dC dI cI cB cJ cZ sa) {x y qo : Nat} {u : Nat → Nat} {v : List Value × (Nat → Nat)} (hv : kn_X13_init v) {H : Heap} {locs : List Loc} {ls : Array Slot} (hP : va_P (dC, dI) vwCl (wd_X11_init cI cB cJ x u ++ (wd_X13_init cI cB y v ++ [(qo, .inl (cJ, 1, .inr (.inl (fun _ => 0))))])) H) (hD : va_D (fun q : Nat => s.heap.size ≤ q) (wd_X11_init cI cB cJ x u ++ (wd_X13_init cI cB y v ++ [(qo, .inl (cJ, 1, .inr (.inl (fun _ => 0))))]))) (hS : va_S (fun q : Nat => s.heap.size ≤ q) s.heap H locs) (hl : lv_has ls 8 [(0, .ref b), (1, .ref x), (2, .ref y), (3, .ref qo), (4, .int 0)]) : W p l e room_1 s m #[Value.ref b] below meth c H locs 694 1334208 (lw_Z below #[Value.ref b] s) (F0 m 2010 ls []) := by
  obtain ⟨hx, hb, hr, hml, hown, hts, hX, hbl, hlocks, hgv⟩ := id C0
  have hown : s.vm.findClass RL = some m.cls := hown
  have hA : ∀ q : Nat, s.heap.size ≤ q → (fun q : Nat => s.heap.size ≤ q) q := fun _ h => h
  have hbA : ¬ (fun q : Nat => s.heap.size ≤ q) b := Nat.not_le.mpr hbl
  have hK := hG.2.1
  have hP := hP.sub (ws' := [(x, .inr (14, [.ref (u 0), .ref (u 1), .ref (u 2), .ref (u 3), .ref (u 4), .ref (u 5), .ref (u 6), .ref (u 7), .ref (u 8), .ref (u 9), .ref (u 10), .ref (u 11), .ref (u 12), .ref (u 13), .ref (u 14), .ref (u 15), .ref (u 16), .ref (u 17), .ref (u 18)])), ((u 11), .inr (4, [.ref (u 66), .ref (u 67), .ref (u 68), .ref (u 69), .ref (u 70), .ref (u 71), .ref (u 72), .ref (u 73), .ref (u 74), .int 0, .ref (u 75), .ref (u 76), .ref (u 77), .ref (u 78), .ref (u 79), .ref (u 80), .int 0, .ref (u 81), .int 0, .int 0])), ((u 81), .inl (cI, 504, .inl (fun _ => 0))), (y, .inr (16, v.1)), ((v.2 6), .inl (cI, 800, .inl (fun _ => 0))), (qo, .inl (cJ, 1, .inr (.inl (fun _ => 0))))]) [0, 55, 56, 60, 67, 71] rfl
  have hD := hD.sub (ws' := [(x, .inr (14, [.ref (u 0), .ref (u 1), .ref (u 2), .ref (u 3), .ref (u 4), .ref (u 5), .ref (u 6), .ref (u 7), .ref (u 8), .ref (u 9), .ref (u 10), .ref (u 11), .ref (u 12), .ref (u 13), .ref (u 14), .ref (u 15), .ref (u 16), .ref (u 17), .ref (u 18)])), ((u 11), .inr (4, [.ref (u 66), .ref (u 67), .ref (u 68), .ref (u 69), .ref (u 70), .ref (u 71), .ref (u 72), .ref (u 73), .ref (u 74), .int 0, .ref (u 75), .ref (u 76), .ref (u 77), .ref (u 78), .ref (u 79), .ref (u 80), .int 0, .ref (u 81), .int 0, .int 0])), ((u 81), .inl (cI, 504, .inl (fun _ => 0))), (y, .inr (16, v.1)), ((v.2 6), .inl (cI, 800, .inl (fun _ => 0))), (qo, .inl (cJ, 1, .inr (.inl (fun _ => 0))))]) [0, 55, 56, 60, 67, 71] (by decide) rfl
  refine lv_aload_n hx hb dL_law_2010 rfl (lv_at hl 1 rfl) ?_
  refine lv_aload_n hx hb dL_law_2011 rfl (lv_at hl 0 rfl) ?_
  refine lv_iload hx hb dL_law_2012 (lv_at hl 4 rfl) ?_
  refine lv_iconst (v := 1) hx hb dL_law_2014 (by decide) ?_
  refine lv_iadd hx hb dL_law_2015 ?_
  refine ow_topi (y := 1) (by decide) ?_
  refine va_sld hx hb hX hbl hbA hS (vp_in_nI (n := 1) (N := 6) (by decide) (by decide)) dL_law_2016 ?_
  refine ow_topi (y := xs 1) (congrArg xs (by decide)) ?_
  refine lv_aload_n hx hb dL_law_2017 rfl (lv_at hl 0 rfl) ?_
  refine lv_iload hx hb dL_law_2018 (lv_at hl 4 rfl) ?_
  refine lv_iconst (v := 2) hx hb dL_law_2020 (by decide) ?_
  refine lv_iadd hx hb dL_law_2021 ?_
  refine ow_topi (y := 2) (by decide) ?_
  refine va_sld hx hb hX hbl hbA hS (vp_in_nI (n := 2) (N := 6) (by decide) (by decide)) dL_law_2022 ?_
  refine ow_topi (y := xs 2) (congrArg xs (by decide)) ?_
  have hPc := hP.sub (ws' := [(x, .inr (14, [.ref (u 0), .ref (u 1), .ref (u 2), .ref (u 3), .ref (u 4), .ref (u 5), .ref (u 6), .ref (u 7), .ref (u 8), .ref (u 9), .ref (u 10), .ref (u 11), .ref (u 12), .ref (u 13), .ref (u 14), .ref (u 15), .ref (u 16), .ref (u 17), .ref (u 18)])), ((u 11), .inr (4, [.ref (u 66), .ref (u 67), .ref (u 68), .ref (u 69), .ref (u 70), .ref (u 71), .ref (u 72), .ref (u 73), .ref (u 74), .int 0, .ref (u 75), .ref (u 76), .ref (u 77), .ref (u 78), .ref (u 79), .ref (u 80), .int 0, .ref (u 81), .int 0, .int 0])), ((u 81), .inl (cI, 504, .inl (fun _ => 0)))]) [0, 1, 2] rfl
  refine va_calli (va_runV (As := [.int (xs 1), .int (xs 2)]) (rest := []) ⟨hx, hb, hml, hown, hts⟩ (kf_X11_rank l dC dI cI cB cJ cZ x u (xs 1) (xs 2)) (cwV 2 hts gw_X11_rank rfl rfl rfl (by decide +kernel) ⟨(Nat.le_of_ble_eq_true rfl), (Nat.le_of_ble_eq_true rfl)⟩) ⟨fun a U g mk q => by obtain ⟨q0, qP, qK⟩ := q; exact ⟨q0, qP, va_K.moved (u := U) (U := U.calling g mk a) (Vm.Alike.refl U.vm) qK⟩, va_recv hK hPc (ci := 14) (q0 := 0) rfl rfl, fun U hU hW => ⟨rfl, by rw [hU]; exact hPc, va_K.moved hW.alike hK⟩⟩ rfl rfl hl.1 rfl (lv_room (Nat.le_of_ble_eq_true rfl)) dL_law_2023 ⟨(Nat.le_of_ble_eq_true rfl), (Nat.le_of_ble_eq_true rfl)⟩) hS (fun q _ h => h.elim) (fun q h => h.elim) (fun r7 un t H1 locs ht hvm hw hB hz1 hk1 hS => ?_)
  obtain rfl : r7 = 0 := hw
  have hP := hP.kept (fun k9 x9 h9 => hk1 x9.1 ((hP k9 x9 h9).lt) id)
  generalize H1 = H at hP hS ⊢
  refine lv_aload_n hx hb dL_law_2026 rfl (lv_at hl 2 rfl) ?_
  refine lv_aload_n hx hb dL_law_2027 rfl (lv_at hl 0 rfl) ?_
  refine lv_iload hx hb dL_law_2028 (lv_at hl 4 rfl) ?_
  refine lv_iconst (v := 1) hx hb dL_law_2030 (by decide) ?_
  refine lv_iadd hx hb dL_law_2031 ?_
  refine ow_topi (y := 1) (by decide) ?_
  refine va_sld hx hb hX hbl hbA hS (vp_in_nI (n := 1) (N := 6) (by decide) (by decide)) dL_law_2032 ?_
  refine ow_topi (y := xs 1) (congrArg xs (by decide)) ?_
  refine lv_aload_n hx hb dL_law_2033 rfl (lv_at hl 0 rfl) ?_
  refine lv_iload hx hb dL_law_2034 (lv_at hl 4 rfl) ?_
  refine lv_iconst (v := 2) hx hb dL_law_2036 (by decide) ?_
  refine lv_iadd hx hb dL_law_2037 ?_
  refine ow_topi (y := 2) (by decide) ?_
  refine va_sld hx hb hX hbl hbA hS (vp_in_nI (n := 2) (N := 6) (by decide) (by decide)) dL_law_2038 ?_
  refine ow_topi (y := xs 2) (congrArg xs (by decide)) ?_
  have hPc := hP.sub (ws' := [(y, .inr (16, v.1)), ((v.2 6), .inl (cI, 800, .inl (fun _ => 0)))]) [3, 4] rfl
  have hDc := hD.sub (ws' := [(y, .inr (16, v.1)), ((v.2 6), .inl (cI, 800, .inl (fun _ => 0)))]) [3, 4] (by decide) rfl
  have hFc := va_free (wc := [(y, .inr (16, v.1)), ((v.2 6), .inl (cI, 800, .inl (fun _ => 0)))]) hD hS hA [3, 4] rfl
  refine va_calli (va_runV (As := [.int (xs 1), .int (xs 2)]) (rest := [.int 0]) ⟨hx, hb, hml, hown, hts⟩ (kf_X13_rank l dC dI cI cB cJ cZ y H.size v.1 hv.1 (v.2 6) (hv.2.at 14 rfl) (hv.2.at 26 rfl) (xs 1) (xs 2)) (cwV 2 hts gw_X13_rank rfl rfl rfl (by decide +kernel) ⟨(Nat.le_of_ble_eq_true rfl), (Nat.le_of_ble_eq_true rfl)⟩) ⟨fun a U g mk q => by obtain ⟨q0, q1, qP, qK, qD⟩ := q; exact ⟨q0, q1, qP, va_K.moved (u := U) (U := U.calling g mk a) (Vm.Alike.refl U.vm) qK, qD⟩, va_recv hK hPc (ci := 16) (q0 := 0) rfl rfl, fun U hU hW => ⟨rfl, by rw [hU], by rw [hU]; exact hPc, va_K.moved hW.alike hK, hDc.weaken (fun _ _ _ _ => trivial)⟩⟩ rfl rfl hl.1 rfl (lv_room (Nat.le_of_ble_eq_true rfl)) dL_law_2039 ⟨(Nat.le_of_ble_eq_true rfl), (Nat.le_of_ble_eq_true rfl)⟩) hS (fun q _ h => hFc q h) hFc (fun r9 g9 t H1 locs ht hvm hw hB hz1 hk1 hS => ?_)
  obtain ⟨hP1, hD1⟩ := hB
  rw [ht] at hP1
  obtain ⟨hP, hD⟩ := va_join (wr := [(x, .inr (14, [.ref (u 0), .ref (u 1), .ref (u 2), .ref (u 3), .ref (u 4), .ref (u 5), .ref (u 6), .ref (u 7), .ref (u 8), .ref (u 9), .ref (u 10), .ref (u 11), .ref (u 12), .ref (u 13), .ref (u 14), .ref (u 15), .ref (u 16), .ref (u 17), .ref (u 18)])), ((u 11), .inr (4, [.ref (u 66), .ref (u 67), .ref (u 68), .ref (u 69), .ref (u 70), .ref (u 71), .ref (u 72), .ref (u 73), .ref (u 74), .int 0, .ref (u 75), .ref (u 76), .ref (u 77), .ref (u 78), .ref (u 79), .ref (u 80), .int 0, .ref (u 81), .int 0, .int 0])), ((u 81), .inl (cI, 504, .inl (fun _ => 0))), (qo, .inl (cJ, 1, .inr (.inl (fun _ => 0))))]) (w1 := [(y, .inr (16, g9))]) hP hD [3, 4] [0, 1, 2, 5] rfl rfl (by decide) (by decide) hk1 hFc hP1 hD1
  generalize H1 = H at hP hS ⊢
  have hP : va_P (dC, dI) vwCl [(x, .inr (14, [.ref (u 0), .ref (u 1), .ref (u 2), .ref (u 3), .ref (u 4), .ref (u 5), .ref (u 6), .ref (u 7), .ref (u 8), .ref (u 9), .ref (u 10), .ref (u 11), .ref (u 12), .ref (u 13), .ref (u 14), .ref (u 15), .ref (u 16), .ref (u 17), .ref (u 18)])), ((u 11), .inr (4, [.ref (u 66), .ref (u 67), .ref (u 68), .ref (u 69), .ref (u 70), .ref (u 71), .ref (u 72), .ref (u 73), .ref (u 74), .int 0, .ref (u 75), .ref (u 76), .ref (u 77), .ref (u 78), .ref (u 79), .ref (u 80), .int 0, .ref (u 81), .int 0, .int 0])), ((u 81), .inl (cI, 504, .inl (fun _ => 0))), (qo, .inl (cJ, 1, .inr (.inl (fun _ => 0)))), (y, .inr (16, g9))] H := hP
  have hD : va_D (fun q : Nat => s.heap.size ≤ q) [(x, .inr (14, [.ref (u 0), .ref (u 1), .ref (u 2), .ref (u 3), .ref (u 4), .ref (u 5), .ref (u 6), .ref (u 7), .ref (u 8), .ref (u 9), .ref (u 10), .ref (u 11), .ref (u 12), .ref (u 13), .ref (u 14), .ref (u 15), .ref (u 16), .ref (u 17), .ref (u 18)])), ((u 11), .inr (4, [.ref (u 66), .ref (u 67), .ref (u 68), .ref (u 69), .ref (u 70), .ref (u 71), .ref (u 72), .ref (u 73), .ref (u 74), .int 0, .ref (u 75), .ref (u 76), .ref (u 77), .ref (u 78), .ref (u 79), .ref (u 80), .int 0, .ref (u 81), .int 0, .int 0])), ((u 81), .inl (cI, 504, .inl (fun _ => 0))), (qo, .inl (cJ, 1, .inr (.inl (fun _ => 0)))), (y, .inr (16, g9))] := hD
  obtain ⟨hr9, hg0⟩ := hw
  subst hr9
  refine lv_icmp_eq (tgt := 2616) hx hb dL_law_2042 (by decide) (fun _ => ?_) (fun c9 => absurd (rfl) c9)
  exact lc_fin C0 hS (lv_sub hl [0, 4] rfl) (Nat.le_of_ble_eq_true rfl) (Nat.le_of_ble_eq_true rfl)
theorem dL_law_2047 : decode cL_law 2047 = .ok (.aload_n 1, 1) := by decide +kernel
theorem dL_law_2048 : decode cL_law 2048 = .ok (.aload_n 0, 1) := by decide +kernel
theorem dL_law_2049 : decode cL_law 2049 = .ok (.iload 4, 2) := by decide +kernel
theorem dL_law_2051 : decode cL_law 2051 = .ok (.iconst 1, 1) := by decide +kernel
theorem dL_law_2052 : decode cL_law 2052 = .ok (.iadd, 1) := by decide +kernel
theorem dL_law_2053 : decode cL_law 2053 = .ok (.iaload, 1) := by decide +kernel
theorem dL_law_2054 : decode cL_law 2054 = .ok (.aload_n 3, 1) := by decide +kernel
theorem dL_law_2055 : decode cL_law 2055 = .ok (.invokestatic 239, 3) := by decide +kernel
theorem dL_law_2058 : decode cL_law 2058 = .ok (.istore 5, 2) := by decide +kernel
theorem dL_law_2060 : decode cL_law 2060 = .ok (.aload_n 2, 1) := by decide +kernel
theorem dL_law_2061 : decode cL_law 2061 = .ok (.aload_n 0, 1) := by decide +kernel
theorem dL_law_2062 : decode cL_law 2062 = .ok (.iload 4, 2) := by decide +kernel
theorem dL_law_2064 : decode cL_law 2064 = .ok (.iconst 1, 1) := by decide +kernel
theorem dL_law_2065 : decode cL_law 2065 = .ok (.iadd, 1) := by decide +kernel
theorem dL_law_2066 : decode cL_law 2066 = .ok (.iaload, 1) := by decide +kernel
theorem dL_law_2067 : decode cL_law 2067 = .ok (.invokevirtual 241, 3) := by decide +kernel
theorem dL_law_2070 : decode cL_law 2070 = .ok (.istore 6, 2) := by decide +kernel
theorem dL_law_2072 : decode cL_law 2072 = .ok (.aload_n 2, 1) := by decide +kernel
theorem dL_law_2073 : decode cL_law 2073 = .ok (.invokevirtual 137, 3) := by decide +kernel
theorem dL_law_2076 : decode cL_law 2076 = .ok (.iload 5, 2) := by decide +kernel
theorem dL_law_2078 : decode cL_law 2078 = .ok (.if_icmp .eq 5, 3) := by decide +kernel
theorem dL_law_2081 : decode cL_law 2081 = .ok (.iconst 0, 1) := by decide +kernel
theorem dL_law_2082 : decode cL_law 2082 = .ok (.ireturn, 1) := by decide +kernel
theorem dL_law_2083 : decode cL_law 2083 = .ok (.iload 5, 2) := by decide +kernel
theorem dL_law_2085 : decode cL_law 2085 = .ok (.ifCond .ne 15, 3) := by decide +kernel
theorem dL_law_2088 : decode cL_law 2088 = .ok (.aload_n 3, 1) := by decide +kernel
theorem dL_law_2089 : decode cL_law 2089 = .ok (.iconst 0, 1) := by decide +kernel
theorem dL_law_2090 : decode cL_law 2090 = .ok (.laload, 1) := by decide +kernel
theorem dL_law_2091 : decode cL_law 2091 = .ok (.iload 6, 2) := by decide +kernel
theorem dL_law_2093 : decode cL_law 2093 = .ok (.i2l, 1) := by decide +kernel
theorem dL_law_2094 : decode cL_law 2094 = .ok (.lcmp, 1) := by decide +kernel
theorem dL_law_2095 : decode cL_law 2095 = .ok (.ifCond .eq 5, 3) := by decide +kernel
theorem dL_law_2098 : decode cL_law 2098 = .ok (.iconst 0, 1) := by decide +kernel
theorem dL_law_2099 : decode cL_law 2099 = .ok (.ireturn, 1) := by decide +kernel
theorem dL_law_2100 : decode cL_law 2100 = .ok (.goto 516, 3) := by decide +kernel
set_option maxHeartbeats 4000000 in
set_option maxRecDepth 100000 in
theorem lc_closure {p : Program} {l : Launch} {e : Env} {s : State} {m : MethodId} {below : List Frame} {meth : Method} {c : Code} {b : Nat} {xs : Nat → Int32} {dC : Nat → ClassId} {dI : Nat → Nat → Nat} {cI cB cJ cZ : ClassId} {sa : Nat → Nat} (C0 : lw_At p s m meth c b 6 xs) (hG : ow_LG l s dC dI cI cB cJ cZ sa) {x y qo : Nat} {u : Nat → Nat} {v : List Value × (Nat → Nat)} (hv : kn_X13_init v) {H : Heap} {locs : List Loc} {ls : Array Slot} (hP : va_P (dC, dI) vwCl (wd_X11_init cI cB cJ x u ++ (wd_X13_init cI cB y v ++ [(qo, .inl (cJ, 1, .inr (.inl (fun _ => 0))))])) H) (hD : va_D (fun q : Nat => s.heap.size ≤ q) (wd_X11_init cI cB cJ x u ++ (wd_X13_init cI cB y v ++ [(qo, .inl (cJ, 1, .inr (.inl (fun _ => 0))))]))) (hS : va_S (fun q : Nat => s.heap.size ≤ q) s.heap H locs) (hl : lv_has ls 8 [(0, .ref b), (1, .ref x), (2, .ref y), (3, .ref qo), (4, .int 0)]) : W p l e room_1 s m #[Value.ref b] below meth c H locs 694 1334208 (lw_Z below #[Value.ref b] s) (F0 m 2047 ls []) := by
  obtain ⟨hx, hb, hr, hml, hown, hts, hX, hbl, hlocks, hgv⟩ := id C0
  have hown : s.vm.findClass RL = some m.cls := hown
  have hA : ∀ q : Nat, s.heap.size ≤ q → (fun q : Nat => s.heap.size ≤ q) q := fun _ h => h
  have hbA : ¬ (fun q : Nat => s.heap.size ≤ q) b := Nat.not_le.mpr hbl
  have hK := hG.2.1
  have hP := hP.sub (ws' := [(x, .inr (14, [.ref (u 0), .ref (u 1), .ref (u 2), .ref (u 3), .ref (u 4), .ref (u 5), .ref (u 6), .ref (u 7), .ref (u 8), .ref (u 9), .ref (u 10), .ref (u 11), .ref (u 12), .ref (u 13), .ref (u 14), .ref (u 15), .ref (u 16), .ref (u 17), .ref (u 18)])), ((u 14), .inl (cI, 20, .inl (fun _ => 0))), (y, .inr (16, v.1)), ((v.2 9), .inl (cI, 20, .inl (fun _ => 0))), (qo, .inl (cJ, 1, .inr (.inl (fun _ => 0))))]) [0, 59, 60, 70, 71] rfl
  have hD := hD.sub (ws' := [(x, .inr (14, [.ref (u 0), .ref (u 1), .ref (u 2), .ref (u 3), .ref (u 4), .ref (u 5), .ref (u 6), .ref (u 7), .ref (u 8), .ref (u 9), .ref (u 10), .ref (u 11), .ref (u 12), .ref (u 13), .ref (u 14), .ref (u 15), .ref (u 16), .ref (u 17), .ref (u 18)])), ((u 14), .inl (cI, 20, .inl (fun _ => 0))), (y, .inr (16, v.1)), ((v.2 9), .inl (cI, 20, .inl (fun _ => 0))), (qo, .inl (cJ, 1, .inr (.inl (fun _ => 0))))]) [0, 59, 60, 70, 71] (by decide) rfl
  refine lv_aload_n hx hb dL_law_2047 rfl (lv_at hl 1 rfl) ?_
  refine lv_aload_n hx hb dL_law_2048 rfl (lv_at hl 0 rfl) ?_
  refine lv_iload hx hb dL_law_2049 (lv_at hl 4 rfl) ?_
  refine lv_iconst (v := 1) hx hb dL_law_2051 (by decide) ?_
  refine lv_iadd hx hb dL_law_2052 ?_
  refine ow_topi (y := 1) (by decide) ?_
  refine va_sld hx hb hX hbl hbA hS (vp_in_nI (n := 1) (N := 6) (by decide) (by decide)) dL_law_2053 ?_
  refine ow_topi (y := xs 1) (congrArg xs (by decide)) ?_
  refine lv_aload_n hx hb dL_law_2054 rfl (lv_at hl 3 rfl) ?_
  have hPc := hP.sub (ws' := [(x, .inr (14, [.ref (u 0), .ref (u 1), .ref (u 2), .ref (u 3), .ref (u 4), .ref (u 5), .ref (u 6), .ref (u 7), .ref (u 8), .ref (u 9), .ref (u 10), .ref (u 11), .ref (u 12), .ref (u 13), .ref (u 14), .ref (u 15), .ref (u 16), .ref (u 17), .ref (u 18)])), ((u 14), .inl (cI, 20, .inl (fun _ => 0)))]) [0, 1] rfl
  refine vx_calli (vx_runSX (As := [.ref x, .int (xs 1), .ref qo]) (rest := []) ⟨hx, hb, hml, hown, hts⟩ (kf_L_closure l dC dI cI cB cJ cZ hG.1 x (sa 1) qo u (xs 1)) (vx_cwSW 3 hts gw_L_closure rfl rfl rfl (by decide +kernel) ⟨(Nat.le_of_ble_eq_true rfl), (Nat.le_of_ble_eq_true rfl)⟩) ⟨fun a U g mk q => by obtain ⟨q0, qP, qK, qT⟩ := q; exact ⟨q0, qP, va_K.moved (u := U) (U := U.calling g mk a) (Vm.Alike.refl U.vm) qK, qT.same rfl rfl⟩, fun U hU hW => ⟨rfl, by rw [hU]; exact hPc, va_K.moved hW.alike hK, (hG.2.2.2.2.1).to hS hW hU (fun q h => h.elim)⟩⟩ rfl rfl hl.1 rfl (lv_room (Nat.le_of_ble_eq_true rfl)) dL_law_2055 ⟨(Nat.le_of_ble_eq_true rfl), (Nat.le_of_ble_eq_true rfl)⟩) hS (fun q _ h => h.elim) (fun q h => h.elim) (fun q _ h => h.elim) (fun E ce q9 u9 t H1 locs1 ht hvm hp hB hz hk hS hce hcv hcl => hp.elim) (fun r7 g7 t H1 locs ht hvm hw hB hz1 hk1 hS => ?_)
  obtain rfl : r7 = 1 := hw
  have hP := hP.kept (fun k9 x9 h9 => hk1 x9.1 ((hP k9 x9 h9).lt) id)
  generalize H1 = H at hP hS ⊢
  refine W.widen (k := 695) (n := 1334214) (Nat.le_of_ble_eq_true rfl) (Nat.le_of_ble_eq_true rfl) ?_
  refine lv_istore (lv' := [(5, .int 1), (0, .ref b), (1, .ref x), (2, .ref y), (3, .ref qo), (4, .int 0)]) hx hb dL_law_2058 hl (by decide) rfl (fun ls hl => ?_)
  refine lv_aload_n hx hb dL_law_2060 rfl (lv_at hl 3 rfl) ?_
  refine lv_aload_n hx hb dL_law_2061 rfl (lv_at hl 1 rfl) ?_
  refine lv_iload hx hb dL_law_2062 (lv_at hl 5 rfl) ?_
  refine lv_iconst (v := 1) hx hb dL_law_2064 (by decide) ?_
  refine lv_iadd hx hb dL_law_2065 ?_
  refine ow_topi (y := 1) (by decide) ?_
  refine va_sld hx hb hX hbl hbA hS (vp_in_nI (n := 1) (N := 6) (by decide) (by decide)) dL_law_2066 ?_
  refine ow_topi (y := xs 1) (congrArg xs (by decide)) ?_
  have hPc := hP.sub (ws' := [(y, .inr (16, v.1)), ((v.2 9), .inl (cI, 20, .inl (fun _ => 0)))]) [2, 3] rfl
  have hDc := hD.sub (ws' := [(y, .inr (16, v.1)), ((v.2 9), .inl (cI, 20, .inl (fun _ => 0)))]) [2, 3] (by decide) rfl
  have hFc := va_free (wc := [(y, .inr (16, v.1)), ((v.2 9), .inl (cI, 20, .inl (fun _ => 0)))]) hD hS hA [2, 3] rfl
  refine va_calli (va_runV (As := [.int (xs 1)]) (rest := []) ⟨hx, hb, hml, hown, hts⟩ (kf_X13_closure l dC dI cI cB cJ cZ y (v.2 9) H.size v.1 hv.1 (hv.2.at 11 rfl) (xs 1)) (cwV 1 hts gw_X13_closure rfl rfl rfl (by decide +kernel) ⟨(Nat.le_of_ble_eq_true rfl), (Nat.le_of_ble_eq_true rfl)⟩) ⟨fun a U g mk q => by obtain ⟨q0, q1, qP, qK, qD⟩ := q; exact ⟨q0, q1, qP, va_K.moved (u := U) (U := U.calling g mk a) (Vm.Alike.refl U.vm) qK, qD⟩, va_recv hK hPc (ci := 16) (q0 := 0) rfl rfl, fun U hU hW => ⟨rfl, by rw [hU], by rw [hU]; exact hPc, va_K.moved hW.alike hK, hDc.weaken (fun _ _ _ _ => trivial)⟩⟩ rfl rfl hl.1 rfl (lv_room (Nat.le_of_ble_eq_true rfl)) dL_law_2067 ⟨(Nat.le_of_ble_eq_true rfl), (Nat.le_of_ble_eq_true rfl)⟩) hS (fun q _ h => hFc q h) hFc (fun r9 g9 t H1 locs ht hvm hw hB hz1 hk1 hS => ?_)
  obtain ⟨hP1, hD1⟩ := hB
  rw [ht] at hP1
  obtain ⟨hP, hD⟩ := va_join (wr := [(x, .inr (14, [.ref (u 0), .ref (u 1), .ref (u 2), .ref (u 3), .ref (u 4), .ref (u 5), .ref (u 6), .ref (u 7), .ref (u 8), .ref (u 9), .ref (u 10), .ref (u 11), .ref (u 12), .ref (u 13), .ref (u 14), .ref (u 15), .ref (u 16), .ref (u 17), .ref (u 18)])), ((u 14), .inl (cI, 20, .inl (fun _ => 0))), (qo, .inl (cJ, 1, .inr (.inl (fun _ => 0))))]) (w1 := [(y, .inr (16, g9))]) hP hD [2, 3] [0, 1, 4] rfl rfl (by decide) (by decide) hk1 hFc hP1 hD1
  generalize H1 = H at hP hS ⊢
  have hP : va_P (dC, dI) vwCl [(x, .inr (14, [.ref (u 0), .ref (u 1), .ref (u 2), .ref (u 3), .ref (u 4), .ref (u 5), .ref (u 6), .ref (u 7), .ref (u 8), .ref (u 9), .ref (u 10), .ref (u 11), .ref (u 12), .ref (u 13), .ref (u 14), .ref (u 15), .ref (u 16), .ref (u 17), .ref (u 18)])), ((u 14), .inl (cI, 20, .inl (fun _ => 0))), (qo, .inl (cJ, 1, .inr (.inl (fun _ => 0)))), (y, .inr (16, g9))] H := hP
  have hD : va_D (fun q : Nat => s.heap.size ≤ q) [(x, .inr (14, [.ref (u 0), .ref (u 1), .ref (u 2), .ref (u 3), .ref (u 4), .ref (u 5), .ref (u 6), .ref (u 7), .ref (u 8), .ref (u 9), .ref (u 10), .ref (u 11), .ref (u 12), .ref (u 13), .ref (u 14), .ref (u 15), .ref (u 16), .ref (u 17), .ref (u 18)])), ((u 14), .inl (cI, 20, .inl (fun _ => 0))), (qo, .inl (cJ, 1, .inr (.inl (fun _ => 0)))), (y, .inr (16, g9))] := hD
  obtain ⟨hr9, hg0⟩ := hw
  subst hr9
  refine lv_istore (lv' := [(6, .int 0), (5, .int 1), (0, .ref b), (1, .ref x), (2, .ref y), (3, .ref qo), (4, .int 0)]) hx hb dL_law_2070 hl (by decide) rfl (fun ls hl => ?_)
  refine lv_aload_n hx hb dL_law_2072 rfl (lv_at hl 4 rfl) ?_
  have hPc := hP.sub (ws' := [(y, .inr (16, g9))]) [3] rfl
  refine va_calli (va_runV (As := []) (rest := []) ⟨hx, hb, hml, hown, hts⟩ (kf_X13_thrownN l dC dI cI cB cJ cZ y g9 1 hg0) (cwV 0 hts gw_X13_thrown rfl rfl rfl (by decide +kernel) ⟨(Nat.le_of_ble_eq_true rfl), (Nat.le_of_ble_eq_true rfl)⟩) ⟨fun a U g mk q => by obtain ⟨q0, qP, qK⟩ := q; exact ⟨q0, qP, va_K.moved (u := U) (U := U.calling g mk a) (Vm.Alike.refl U.vm) qK⟩, va_recv hK hPc (ci := 16) (q0 := 0) rfl rfl, fun U hU hW => ⟨rfl, by rw [hU]; exact hPc, va_K.moved hW.alike hK⟩⟩ rfl rfl hl.1 rfl (lv_room (Nat.le_of_ble_eq_true rfl)) dL_law_2073 ⟨(Nat.le_of_ble_eq_true rfl), (Nat.le_of_ble_eq_true rfl)⟩) hS (fun q _ h => h.elim) (fun q h => h.elim) (fun r8 un t H1 locs ht hvm hw8 hB hz1 hk1 hS => ?_)
  obtain rfl : r8 = 1 := hw8
  have hP := hP.kept (fun k9 x9 h9 => hk1 x9.1 ((hP k9 x9 h9).lt) id)
  generalize H1 = H at hP hS ⊢
  refine lv_iload hx hb dL_law_2076 (lv_at hl 1 rfl) ?_
  refine lv_icmp_eq (tgt := 2083) hx hb dL_law_2078 (by decide) (fun _ => ?_) (fun c9 => absurd (rfl) c9)
  refine lv_iload hx hb dL_law_2083 (lv_at hl 1 rfl) ?_
  refine lv_if_ne (tgt := 2100) hx hb dL_law_2085 (by decide) (fun _ => ?_) (fun c9 => absurd c9 (by decide))
  refine lv_goto (tgt := 2616) hx hb dL_law_2100 (by decide) ?_
  exact lc_fin C0 hS (lv_sub hl [2, 6] rfl) (Nat.le_of_ble_eq_true rfl) (Nat.le_of_ble_eq_true rfl)
theorem dL_law_2103 : decode cL_law 2103 = .ok (.aload_n 1, 1) := by decide +kernel
theorem dL_law_2104 : decode cL_law 2104 = .ok (.aload_n 0, 1) := by decide +kernel
theorem dL_law_2105 : decode cL_law 2105 = .ok (.iload 4, 2) := by decide +kernel
theorem dL_law_2107 : decode cL_law 2107 = .ok (.iconst 1, 1) := by decide +kernel
theorem dL_law_2108 : decode cL_law 2108 = .ok (.iadd, 1) := by decide +kernel
theorem dL_law_2109 : decode cL_law 2109 = .ok (.iaload, 1) := by decide +kernel
theorem dL_law_2110 : decode cL_law 2110 = .ok (.aload_n 0, 1) := by decide +kernel
theorem dL_law_2111 : decode cL_law 2111 = .ok (.iload 4, 2) := by decide +kernel
theorem dL_law_2113 : decode cL_law 2113 = .ok (.iconst 2, 1) := by decide +kernel
theorem dL_law_2114 : decode cL_law 2114 = .ok (.iadd, 1) := by decide +kernel
theorem dL_law_2115 : decode cL_law 2115 = .ok (.iaload, 1) := by decide +kernel
theorem dL_law_2116 : decode cL_law 2116 = .ok (.aload_n 3, 1) := by decide +kernel
theorem dL_law_2117 : decode cL_law 2117 = .ok (.invokestatic 242, 3) := by decide +kernel
theorem dL_law_2120 : decode cL_law 2120 = .ok (.istore 5, 2) := by decide +kernel
theorem dL_law_2122 : decode cL_law 2122 = .ok (.aload_n 2, 1) := by decide +kernel
theorem dL_law_2123 : decode cL_law 2123 = .ok (.aload_n 0, 1) := by decide +kernel
theorem dL_law_2124 : decode cL_law 2124 = .ok (.iload 4, 2) := by decide +kernel
theorem dL_law_2126 : decode cL_law 2126 = .ok (.iconst 1, 1) := by decide +kernel
theorem dL_law_2127 : decode cL_law 2127 = .ok (.iadd, 1) := by decide +kernel
theorem dL_law_2128 : decode cL_law 2128 = .ok (.iaload, 1) := by decide +kernel
theorem dL_law_2129 : decode cL_law 2129 = .ok (.aload_n 0, 1) := by decide +kernel
theorem dL_law_2130 : decode cL_law 2130 = .ok (.iload 4, 2) := by decide +kernel
theorem dL_law_2132 : decode cL_law 2132 = .ok (.iconst 2, 1) := by decide +kernel
theorem dL_law_2133 : decode cL_law 2133 = .ok (.iadd, 1) := by decide +kernel
theorem dL_law_2134 : decode cL_law 2134 = .ok (.iaload, 1) := by decide +kernel
theorem dL_law_2135 : decode cL_law 2135 = .ok (.invokevirtual 244, 3) := by decide +kernel
theorem dL_law_2138 : decode cL_law 2138 = .ok (.istore 6, 2) := by decide +kernel
theorem dL_law_2140 : decode cL_law 2140 = .ok (.aload_n 2, 1) := by decide +kernel
theorem dL_law_2141 : decode cL_law 2141 = .ok (.invokevirtual 137, 3) := by decide +kernel
theorem dL_law_2144 : decode cL_law 2144 = .ok (.iload 5, 2) := by decide +kernel
theorem dL_law_2146 : decode cL_law 2146 = .ok (.if_icmp .eq 5, 3) := by decide +kernel
theorem dL_law_2149 : decode cL_law 2149 = .ok (.iconst 0, 1) := by decide +kernel
theorem dL_law_2150 : decode cL_law 2150 = .ok (.ireturn, 1) := by decide +kernel
theorem dL_law_2151 : decode cL_law 2151 = .ok (.iload 5, 2) := by decide +kernel
theorem dL_law_2153 : decode cL_law 2153 = .ok (.ifCond .ne 15, 3) := by decide +kernel
theorem dL_law_2156 : decode cL_law 2156 = .ok (.aload_n 3, 1) := by decide +kernel
theorem dL_law_2157 : decode cL_law 2157 = .ok (.iconst 0, 1) := by decide +kernel
theorem dL_law_2158 : decode cL_law 2158 = .ok (.laload, 1) := by decide +kernel
theorem dL_law_2159 : decode cL_law 2159 = .ok (.iload 6, 2) := by decide +kernel
theorem dL_law_2161 : decode cL_law 2161 = .ok (.i2l, 1) := by decide +kernel
theorem dL_law_2162 : decode cL_law 2162 = .ok (.lcmp, 1) := by decide +kernel
theorem dL_law_2163 : decode cL_law 2163 = .ok (.ifCond .eq 5, 3) := by decide +kernel
theorem dL_law_2166 : decode cL_law 2166 = .ok (.iconst 0, 1) := by decide +kernel
theorem dL_law_2167 : decode cL_law 2167 = .ok (.ireturn, 1) := by decide +kernel
theorem dL_law_2168 : decode cL_law 2168 = .ok (.goto 448, 3) := by decide +kernel
set_option maxHeartbeats 4000000 in
set_option maxRecDepth 100000 in
theorem lc_product {p : Program} {l : Launch} {e : Env} {s : State} {m : MethodId} {below : List Frame} {meth : Method} {c : Code} {b : Nat} {xs : Nat → Int32} {dC : Nat → ClassId} {dI : Nat → Nat → Nat} {cI cB cJ cZ : ClassId} {sa : Nat → Nat} (C0 : lw_At p s m meth c b 6 xs) (hG : ow_LG l s dC dI cI cB cJ cZ sa) {x y qo : Nat} {u : Nat → Nat} {v : List Value × (Nat → Nat)} (hv : kn_X13_init v) {H : Heap} {locs : List Loc} {ls : Array Slot} (hP : va_P (dC, dI) vwCl (wd_X11_init cI cB cJ x u ++ (wd_X13_init cI cB y v ++ [(qo, .inl (cJ, 1, .inr (.inl (fun _ => 0))))])) H) (hD : va_D (fun q : Nat => s.heap.size ≤ q) (wd_X11_init cI cB cJ x u ++ (wd_X13_init cI cB y v ++ [(qo, .inl (cJ, 1, .inr (.inl (fun _ => 0))))]))) (hS : va_S (fun q : Nat => s.heap.size ≤ q) s.heap H locs) (hl : lv_has ls 8 [(0, .ref b), (1, .ref x), (2, .ref y), (3, .ref qo), (4, .int 0)]) : W p l e room_1 s m #[Value.ref b] below meth c H locs 694 1334208 (lw_Z below #[Value.ref b] s) (F0 m 2103 ls []) := by
  obtain ⟨hx, hb, hr, hml, hown, hts, hX, hbl, hlocks, hgv⟩ := id C0
  have hown : s.vm.findClass RL = some m.cls := hown
  have hA : ∀ q : Nat, s.heap.size ≤ q → (fun q : Nat => s.heap.size ≤ q) q := fun _ h => h
  have hbA : ¬ (fun q : Nat => s.heap.size ≤ q) b := Nat.not_le.mpr hbl
  have hK := hG.2.1
  have hP := hP.sub (ws' := [(x, .inr (14, [.ref (u 0), .ref (u 1), .ref (u 2), .ref (u 3), .ref (u 4), .ref (u 5), .ref (u 6), .ref (u 7), .ref (u 8), .ref (u 9), .ref (u 10), .ref (u 11), .ref (u 12), .ref (u 13), .ref (u 14), .ref (u 15), .ref (u 16), .ref (u 17), .ref (u 18)])), ((u 14), .inl (cI, 20, .inl (fun _ => 0))), (y, .inr (16, v.1)), ((v.2 9), .inl (cI, 20, .inl (fun _ => 0))), (qo, .inl (cJ, 1, .inr (.inl (fun _ => 0))))]) [0, 59, 60, 70, 71] rfl
  have hD := hD.sub (ws' := [(x, .inr (14, [.ref (u 0), .ref (u 1), .ref (u 2), .ref (u 3), .ref (u 4), .ref (u 5), .ref (u 6), .ref (u 7), .ref (u 8), .ref (u 9), .ref (u 10), .ref (u 11), .ref (u 12), .ref (u 13), .ref (u 14), .ref (u 15), .ref (u 16), .ref (u 17), .ref (u 18)])), ((u 14), .inl (cI, 20, .inl (fun _ => 0))), (y, .inr (16, v.1)), ((v.2 9), .inl (cI, 20, .inl (fun _ => 0))), (qo, .inl (cJ, 1, .inr (.inl (fun _ => 0))))]) [0, 59, 60, 70, 71] (by decide) rfl
  refine lv_aload_n hx hb dL_law_2103 rfl (lv_at hl 1 rfl) ?_
  refine lv_aload_n hx hb dL_law_2104 rfl (lv_at hl 0 rfl) ?_
  refine lv_iload hx hb dL_law_2105 (lv_at hl 4 rfl) ?_
  refine lv_iconst (v := 1) hx hb dL_law_2107 (by decide) ?_
  refine lv_iadd hx hb dL_law_2108 ?_
  refine ow_topi (y := 1) (by decide) ?_
  refine va_sld hx hb hX hbl hbA hS (vp_in_nI (n := 1) (N := 6) (by decide) (by decide)) dL_law_2109 ?_
  refine ow_topi (y := xs 1) (congrArg xs (by decide)) ?_
  refine lv_aload_n hx hb dL_law_2110 rfl (lv_at hl 0 rfl) ?_
  refine lv_iload hx hb dL_law_2111 (lv_at hl 4 rfl) ?_
  refine lv_iconst (v := 2) hx hb dL_law_2113 (by decide) ?_
  refine lv_iadd hx hb dL_law_2114 ?_
  refine ow_topi (y := 2) (by decide) ?_
  refine va_sld hx hb hX hbl hbA hS (vp_in_nI (n := 2) (N := 6) (by decide) (by decide)) dL_law_2115 ?_
  refine ow_topi (y := xs 2) (congrArg xs (by decide)) ?_
  refine lv_aload_n hx hb dL_law_2116 rfl (lv_at hl 3 rfl) ?_
  have hPc := hP.sub (ws' := [(x, .inr (14, [.ref (u 0), .ref (u 1), .ref (u 2), .ref (u 3), .ref (u 4), .ref (u 5), .ref (u 6), .ref (u 7), .ref (u 8), .ref (u 9), .ref (u 10), .ref (u 11), .ref (u 12), .ref (u 13), .ref (u 14), .ref (u 15), .ref (u 16), .ref (u 17), .ref (u 18)])), ((u 14), .inl (cI, 20, .inl (fun _ => 0)))]) [0, 1] rfl
  refine vx_calli (vx_runSX (As := [.ref x, .int (xs 1), .int (xs 2), .ref qo]) (rest := []) ⟨hx, hb, hml, hown, hts⟩ (kf_L_product l dC dI cI cB cJ cZ hG.1 x (sa 1) qo u (xs 1) (xs 2)) (vx_cwSW 4 hts gw_L_product rfl rfl rfl (by decide +kernel) ⟨(Nat.le_of_ble_eq_true rfl), (Nat.le_of_ble_eq_true rfl)⟩) ⟨fun a U g mk q => by obtain ⟨q0, qP, qK, qT⟩ := q; exact ⟨q0, qP, va_K.moved (u := U) (U := U.calling g mk a) (Vm.Alike.refl U.vm) qK, qT.same rfl rfl⟩, fun U hU hW => ⟨rfl, by rw [hU]; exact hPc, va_K.moved hW.alike hK, (hG.2.2.2.2.1).to hS hW hU (fun q h => h.elim)⟩⟩ rfl rfl hl.1 rfl (lv_room (Nat.le_of_ble_eq_true rfl)) dL_law_2117 ⟨(Nat.le_of_ble_eq_true rfl), (Nat.le_of_ble_eq_true rfl)⟩) hS (fun q _ h => h.elim) (fun q h => h.elim) (fun q _ h => h.elim) (fun E ce q9 u9 t H1 locs1 ht hvm hp hB hz hk hS hce hcv hcl => hp.elim) (fun r7 g7 t H1 locs ht hvm hw hB hz1 hk1 hS => ?_)
  obtain rfl : r7 = 1 := hw
  have hP := hP.kept (fun k9 x9 h9 => hk1 x9.1 ((hP k9 x9 h9).lt) id)
  generalize H1 = H at hP hS ⊢
  refine W.widen (k := 695) (n := 1334214) (Nat.le_of_ble_eq_true rfl) (Nat.le_of_ble_eq_true rfl) ?_
  refine lv_istore (lv' := [(5, .int 1), (0, .ref b), (1, .ref x), (2, .ref y), (3, .ref qo), (4, .int 0)]) hx hb dL_law_2120 hl (by decide) rfl (fun ls hl => ?_)
  refine lv_aload_n hx hb dL_law_2122 rfl (lv_at hl 3 rfl) ?_
  refine lv_aload_n hx hb dL_law_2123 rfl (lv_at hl 1 rfl) ?_
  refine lv_iload hx hb dL_law_2124 (lv_at hl 5 rfl) ?_
  refine lv_iconst (v := 1) hx hb dL_law_2126 (by decide) ?_
  refine lv_iadd hx hb dL_law_2127 ?_
  refine ow_topi (y := 1) (by decide) ?_
  refine va_sld hx hb hX hbl hbA hS (vp_in_nI (n := 1) (N := 6) (by decide) (by decide)) dL_law_2128 ?_
  refine ow_topi (y := xs 1) (congrArg xs (by decide)) ?_
  refine lv_aload_n hx hb dL_law_2129 rfl (lv_at hl 1 rfl) ?_
  refine lv_iload hx hb dL_law_2130 (lv_at hl 5 rfl) ?_
  refine lv_iconst (v := 2) hx hb dL_law_2132 (by decide) ?_
  refine lv_iadd hx hb dL_law_2133 ?_
  refine ow_topi (y := 2) (by decide) ?_
  refine va_sld hx hb hX hbl hbA hS (vp_in_nI (n := 2) (N := 6) (by decide) (by decide)) dL_law_2134 ?_
  refine ow_topi (y := xs 2) (congrArg xs (by decide)) ?_
  have hPc := hP.sub (ws' := [(y, .inr (16, v.1)), ((v.2 9), .inl (cI, 20, .inl (fun _ => 0)))]) [2, 3] rfl
  have hDc := hD.sub (ws' := [(y, .inr (16, v.1)), ((v.2 9), .inl (cI, 20, .inl (fun _ => 0)))]) [2, 3] (by decide) rfl
  have hFc := va_free (wc := [(y, .inr (16, v.1)), ((v.2 9), .inl (cI, 20, .inl (fun _ => 0)))]) hD hS hA [2, 3] rfl
  refine va_calli (va_runV (As := [.int (xs 1), .int (xs 2)]) (rest := []) ⟨hx, hb, hml, hown, hts⟩ (kf_X13_product l dC dI cI cB cJ cZ y (v.2 9) H.size v.1 hv.1 (hv.2.at 11 rfl) (xs 1) (xs 2)) (cwV 2 hts gw_X13_product rfl rfl rfl (by decide +kernel) ⟨(Nat.le_of_ble_eq_true rfl), (Nat.le_of_ble_eq_true rfl)⟩) ⟨fun a U g mk q => by obtain ⟨q0, q1, qP, qK, qD⟩ := q; exact ⟨q0, q1, qP, va_K.moved (u := U) (U := U.calling g mk a) (Vm.Alike.refl U.vm) qK, qD⟩, va_recv hK hPc (ci := 16) (q0 := 0) rfl rfl, fun U hU hW => ⟨rfl, by rw [hU], by rw [hU]; exact hPc, va_K.moved hW.alike hK, hDc.weaken (fun _ _ _ _ => trivial)⟩⟩ rfl rfl hl.1 rfl (lv_room (Nat.le_of_ble_eq_true rfl)) dL_law_2135 ⟨(Nat.le_of_ble_eq_true rfl), (Nat.le_of_ble_eq_true rfl)⟩) hS (fun q _ h => hFc q h) hFc (fun r9 g9 t H1 locs ht hvm hw hB hz1 hk1 hS => ?_)
  obtain ⟨hP1, hD1⟩ := hB
  rw [ht] at hP1
  obtain ⟨hP, hD⟩ := va_join (wr := [(x, .inr (14, [.ref (u 0), .ref (u 1), .ref (u 2), .ref (u 3), .ref (u 4), .ref (u 5), .ref (u 6), .ref (u 7), .ref (u 8), .ref (u 9), .ref (u 10), .ref (u 11), .ref (u 12), .ref (u 13), .ref (u 14), .ref (u 15), .ref (u 16), .ref (u 17), .ref (u 18)])), ((u 14), .inl (cI, 20, .inl (fun _ => 0))), (qo, .inl (cJ, 1, .inr (.inl (fun _ => 0))))]) (w1 := [(y, .inr (16, g9))]) hP hD [2, 3] [0, 1, 4] rfl rfl (by decide) (by decide) hk1 hFc hP1 hD1
  generalize H1 = H at hP hS ⊢
  have hP : va_P (dC, dI) vwCl [(x, .inr (14, [.ref (u 0), .ref (u 1), .ref (u 2), .ref (u 3), .ref (u 4), .ref (u 5), .ref (u 6), .ref (u 7), .ref (u 8), .ref (u 9), .ref (u 10), .ref (u 11), .ref (u 12), .ref (u 13), .ref (u 14), .ref (u 15), .ref (u 16), .ref (u 17), .ref (u 18)])), ((u 14), .inl (cI, 20, .inl (fun _ => 0))), (qo, .inl (cJ, 1, .inr (.inl (fun _ => 0)))), (y, .inr (16, g9))] H := hP
  have hD : va_D (fun q : Nat => s.heap.size ≤ q) [(x, .inr (14, [.ref (u 0), .ref (u 1), .ref (u 2), .ref (u 3), .ref (u 4), .ref (u 5), .ref (u 6), .ref (u 7), .ref (u 8), .ref (u 9), .ref (u 10), .ref (u 11), .ref (u 12), .ref (u 13), .ref (u 14), .ref (u 15), .ref (u 16), .ref (u 17), .ref (u 18)])), ((u 14), .inl (cI, 20, .inl (fun _ => 0))), (qo, .inl (cJ, 1, .inr (.inl (fun _ => 0)))), (y, .inr (16, g9))] := hD
  obtain ⟨hr9, hg0⟩ := hw
  subst hr9
  refine lv_istore (lv' := [(6, .int 0), (5, .int 1), (0, .ref b), (1, .ref x), (2, .ref y), (3, .ref qo), (4, .int 0)]) hx hb dL_law_2138 hl (by decide) rfl (fun ls hl => ?_)
  refine lv_aload_n hx hb dL_law_2140 rfl (lv_at hl 4 rfl) ?_
  have hPc := hP.sub (ws' := [(y, .inr (16, g9))]) [3] rfl
  refine va_calli (va_runV (As := []) (rest := []) ⟨hx, hb, hml, hown, hts⟩ (kf_X13_thrownN l dC dI cI cB cJ cZ y g9 1 hg0) (cwV 0 hts gw_X13_thrown rfl rfl rfl (by decide +kernel) ⟨(Nat.le_of_ble_eq_true rfl), (Nat.le_of_ble_eq_true rfl)⟩) ⟨fun a U g mk q => by obtain ⟨q0, qP, qK⟩ := q; exact ⟨q0, qP, va_K.moved (u := U) (U := U.calling g mk a) (Vm.Alike.refl U.vm) qK⟩, va_recv hK hPc (ci := 16) (q0 := 0) rfl rfl, fun U hU hW => ⟨rfl, by rw [hU]; exact hPc, va_K.moved hW.alike hK⟩⟩ rfl rfl hl.1 rfl (lv_room (Nat.le_of_ble_eq_true rfl)) dL_law_2141 ⟨(Nat.le_of_ble_eq_true rfl), (Nat.le_of_ble_eq_true rfl)⟩) hS (fun q _ h => h.elim) (fun q h => h.elim) (fun r8 un t H1 locs ht hvm hw8 hB hz1 hk1 hS => ?_)
  obtain rfl : r8 = 1 := hw8
  have hP := hP.kept (fun k9 x9 h9 => hk1 x9.1 ((hP k9 x9 h9).lt) id)
  generalize H1 = H at hP hS ⊢
  refine lv_iload hx hb dL_law_2144 (lv_at hl 1 rfl) ?_
  refine lv_icmp_eq (tgt := 2151) hx hb dL_law_2146 (by decide) (fun _ => ?_) (fun c9 => absurd (rfl) c9)
  refine lv_iload hx hb dL_law_2151 (lv_at hl 1 rfl) ?_
  refine lv_if_ne (tgt := 2168) hx hb dL_law_2153 (by decide) (fun _ => ?_) (fun c9 => absurd c9 (by decide))
  refine lv_goto (tgt := 2616) hx hb dL_law_2168 (by decide) ?_
  exact lc_fin C0 hS (lv_sub hl [2, 6] rfl) (Nat.le_of_ble_eq_true rfl) (Nat.le_of_ble_eq_true rfl)
theorem dL_law_2171 : decode cL_law 2171 = .ok (.aload_n 1, 1) := by decide +kernel
theorem dL_law_2172 : decode cL_law 2172 = .ok (.aload_n 0, 1) := by decide +kernel
theorem dL_law_2173 : decode cL_law 2173 = .ok (.iload 4, 2) := by decide +kernel
theorem dL_law_2175 : decode cL_law 2175 = .ok (.iconst 1, 1) := by decide +kernel
theorem dL_law_2176 : decode cL_law 2176 = .ok (.iadd, 1) := by decide +kernel
theorem dL_law_2177 : decode cL_law 2177 = .ok (.iaload, 1) := by decide +kernel
theorem dL_law_2178 : decode cL_law 2178 = .ok (.aload_n 3, 1) := by decide +kernel
theorem dL_law_2179 : decode cL_law 2179 = .ok (.invokestatic 245, 3) := by decide +kernel
theorem dL_law_2182 : decode cL_law 2182 = .ok (.istore 5, 2) := by decide +kernel
theorem dL_law_2184 : decode cL_law 2184 = .ok (.aload_n 2, 1) := by decide +kernel
theorem dL_law_2185 : decode cL_law 2185 = .ok (.aload_n 0, 1) := by decide +kernel
theorem dL_law_2186 : decode cL_law 2186 = .ok (.iload 4, 2) := by decide +kernel
theorem dL_law_2188 : decode cL_law 2188 = .ok (.iconst 1, 1) := by decide +kernel
theorem dL_law_2189 : decode cL_law 2189 = .ok (.iadd, 1) := by decide +kernel
theorem dL_law_2190 : decode cL_law 2190 = .ok (.iaload, 1) := by decide +kernel
theorem dL_law_2191 : decode cL_law 2191 = .ok (.invokevirtual 247, 3) := by decide +kernel
theorem dL_law_2194 : decode cL_law 2194 = .ok (.istore 6, 2) := by decide +kernel
theorem dL_law_2196 : decode cL_law 2196 = .ok (.aload_n 2, 1) := by decide +kernel
theorem dL_law_2197 : decode cL_law 2197 = .ok (.invokevirtual 137, 3) := by decide +kernel
theorem dL_law_2200 : decode cL_law 2200 = .ok (.iload 5, 2) := by decide +kernel
theorem dL_law_2202 : decode cL_law 2202 = .ok (.if_icmp .eq 5, 3) := by decide +kernel
theorem dL_law_2205 : decode cL_law 2205 = .ok (.iconst 0, 1) := by decide +kernel
theorem dL_law_2206 : decode cL_law 2206 = .ok (.ireturn, 1) := by decide +kernel
theorem dL_law_2207 : decode cL_law 2207 = .ok (.iload 5, 2) := by decide +kernel
theorem dL_law_2209 : decode cL_law 2209 = .ok (.ifCond .ne 15, 3) := by decide +kernel
theorem dL_law_2212 : decode cL_law 2212 = .ok (.aload_n 3, 1) := by decide +kernel
theorem dL_law_2213 : decode cL_law 2213 = .ok (.iconst 0, 1) := by decide +kernel
theorem dL_law_2214 : decode cL_law 2214 = .ok (.laload, 1) := by decide +kernel
theorem dL_law_2215 : decode cL_law 2215 = .ok (.iload 6, 2) := by decide +kernel
theorem dL_law_2217 : decode cL_law 2217 = .ok (.i2l, 1) := by decide +kernel
theorem dL_law_2218 : decode cL_law 2218 = .ok (.lcmp, 1) := by decide +kernel
theorem dL_law_2219 : decode cL_law 2219 = .ok (.ifCond .eq 5, 3) := by decide +kernel
theorem dL_law_2222 : decode cL_law 2222 = .ok (.iconst 0, 1) := by decide +kernel
theorem dL_law_2223 : decode cL_law 2223 = .ok (.ireturn, 1) := by decide +kernel
theorem dL_law_2224 : decode cL_law 2224 = .ok (.goto 392, 3) := by decide +kernel
set_option maxHeartbeats 4000000 in
set_option maxRecDepth 100000 in
theorem lc_inverse {p : Program} {l : Launch} {e : Env} {s : State} {m : MethodId} {below : List Frame} {meth : Method} {c : Code} {b : Nat} {xs : Nat → Int32} {dC : Nat → ClassId} {dI : Nat → Nat → Nat} {cI cB cJ cZ : ClassId} {sa : Nat → Nat} (C0 : lw_At p s m meth c b 6 xs) (hG : ow_LG l s dC dI cI cB cJ cZ sa) {x y qo : Nat} {u : Nat → Nat} {v : List Value × (Nat → Nat)} (hv : kn_X13_init v) {H : Heap} {locs : List Loc} {ls : Array Slot} (hP : va_P (dC, dI) vwCl (wd_X11_init cI cB cJ x u ++ (wd_X13_init cI cB y v ++ [(qo, .inl (cJ, 1, .inr (.inl (fun _ => 0))))])) H) (hD : va_D (fun q : Nat => s.heap.size ≤ q) (wd_X11_init cI cB cJ x u ++ (wd_X13_init cI cB y v ++ [(qo, .inl (cJ, 1, .inr (.inl (fun _ => 0))))]))) (hS : va_S (fun q : Nat => s.heap.size ≤ q) s.heap H locs) (hl : lv_has ls 8 [(0, .ref b), (1, .ref x), (2, .ref y), (3, .ref qo), (4, .int 0)]) : W p l e room_1 s m #[Value.ref b] below meth c H locs 694 1334208 (lw_Z below #[Value.ref b] s) (F0 m 2171 ls []) := by
  obtain ⟨hx, hb, hr, hml, hown, hts, hX, hbl, hlocks, hgv⟩ := id C0
  have hown : s.vm.findClass RL = some m.cls := hown
  have hA : ∀ q : Nat, s.heap.size ≤ q → (fun q : Nat => s.heap.size ≤ q) q := fun _ h => h
  have hbA : ¬ (fun q : Nat => s.heap.size ≤ q) b := Nat.not_le.mpr hbl
  have hK := hG.2.1
  have hP := hP.sub (ws' := [(x, .inr (14, [.ref (u 0), .ref (u 1), .ref (u 2), .ref (u 3), .ref (u 4), .ref (u 5), .ref (u 6), .ref (u 7), .ref (u 8), .ref (u 9), .ref (u 10), .ref (u 11), .ref (u 12), .ref (u 13), .ref (u 14), .ref (u 15), .ref (u 16), .ref (u 17), .ref (u 18)])), ((u 14), .inl (cI, 20, .inl (fun _ => 0))), (y, .inr (16, v.1)), ((v.2 9), .inl (cI, 20, .inl (fun _ => 0))), (qo, .inl (cJ, 1, .inr (.inl (fun _ => 0))))]) [0, 59, 60, 70, 71] rfl
  have hD := hD.sub (ws' := [(x, .inr (14, [.ref (u 0), .ref (u 1), .ref (u 2), .ref (u 3), .ref (u 4), .ref (u 5), .ref (u 6), .ref (u 7), .ref (u 8), .ref (u 9), .ref (u 10), .ref (u 11), .ref (u 12), .ref (u 13), .ref (u 14), .ref (u 15), .ref (u 16), .ref (u 17), .ref (u 18)])), ((u 14), .inl (cI, 20, .inl (fun _ => 0))), (y, .inr (16, v.1)), ((v.2 9), .inl (cI, 20, .inl (fun _ => 0))), (qo, .inl (cJ, 1, .inr (.inl (fun _ => 0))))]) [0, 59, 60, 70, 71] (by decide) rfl
  refine lv_aload_n hx hb dL_law_2171 rfl (lv_at hl 1 rfl) ?_
  refine lv_aload_n hx hb dL_law_2172 rfl (lv_at hl 0 rfl) ?_
  refine lv_iload hx hb dL_law_2173 (lv_at hl 4 rfl) ?_
  refine lv_iconst (v := 1) hx hb dL_law_2175 (by decide) ?_
  refine lv_iadd hx hb dL_law_2176 ?_
  refine ow_topi (y := 1) (by decide) ?_
  refine va_sld hx hb hX hbl hbA hS (vp_in_nI (n := 1) (N := 6) (by decide) (by decide)) dL_law_2177 ?_
  refine ow_topi (y := xs 1) (congrArg xs (by decide)) ?_
  refine lv_aload_n hx hb dL_law_2178 rfl (lv_at hl 3 rfl) ?_
  have hPc := hP.sub (ws' := [(x, .inr (14, [.ref (u 0), .ref (u 1), .ref (u 2), .ref (u 3), .ref (u 4), .ref (u 5), .ref (u 6), .ref (u 7), .ref (u 8), .ref (u 9), .ref (u 10), .ref (u 11), .ref (u 12), .ref (u 13), .ref (u 14), .ref (u 15), .ref (u 16), .ref (u 17), .ref (u 18)])), ((u 14), .inl (cI, 20, .inl (fun _ => 0)))]) [0, 1] rfl
  refine vx_calli (vx_runSX (As := [.ref x, .int (xs 1), .ref qo]) (rest := []) ⟨hx, hb, hml, hown, hts⟩ (kf_L_inverse l dC dI cI cB cJ cZ hG.1 x (sa 1) qo u (xs 1)) (vx_cwSW 3 hts gw_L_inverse rfl rfl rfl (by decide +kernel) ⟨(Nat.le_of_ble_eq_true rfl), (Nat.le_of_ble_eq_true rfl)⟩) ⟨fun a U g mk q => by obtain ⟨q0, qP, qK, qT⟩ := q; exact ⟨q0, qP, va_K.moved (u := U) (U := U.calling g mk a) (Vm.Alike.refl U.vm) qK, qT.same rfl rfl⟩, fun U hU hW => ⟨rfl, by rw [hU]; exact hPc, va_K.moved hW.alike hK, (hG.2.2.2.2.1).to hS hW hU (fun q h => h.elim)⟩⟩ rfl rfl hl.1 rfl (lv_room (Nat.le_of_ble_eq_true rfl)) dL_law_2179 ⟨(Nat.le_of_ble_eq_true rfl), (Nat.le_of_ble_eq_true rfl)⟩) hS (fun q _ h => h.elim) (fun q h => h.elim) (fun q _ h => h.elim) (fun E ce q9 u9 t H1 locs1 ht hvm hp hB hz hk hS hce hcv hcl => hp.elim) (fun r7 g7 t H1 locs ht hvm hw hB hz1 hk1 hS => ?_)
  obtain rfl : r7 = 1 := hw
  have hP := hP.kept (fun k9 x9 h9 => hk1 x9.1 ((hP k9 x9 h9).lt) id)
  generalize H1 = H at hP hS ⊢
  refine W.widen (k := 695) (n := 1334214) (Nat.le_of_ble_eq_true rfl) (Nat.le_of_ble_eq_true rfl) ?_
  refine lv_istore (lv' := [(5, .int 1), (0, .ref b), (1, .ref x), (2, .ref y), (3, .ref qo), (4, .int 0)]) hx hb dL_law_2182 hl (by decide) rfl (fun ls hl => ?_)
  refine lv_aload_n hx hb dL_law_2184 rfl (lv_at hl 3 rfl) ?_
  refine lv_aload_n hx hb dL_law_2185 rfl (lv_at hl 1 rfl) ?_
  refine lv_iload hx hb dL_law_2186 (lv_at hl 5 rfl) ?_
  refine lv_iconst (v := 1) hx hb dL_law_2188 (by decide) ?_
  refine lv_iadd hx hb dL_law_2189 ?_
  refine ow_topi (y := 1) (by decide) ?_
  refine va_sld hx hb hX hbl hbA hS (vp_in_nI (n := 1) (N := 6) (by decide) (by decide)) dL_law_2190 ?_
  refine ow_topi (y := xs 1) (congrArg xs (by decide)) ?_
  have hPc := hP.sub (ws' := [(y, .inr (16, v.1)), ((v.2 9), .inl (cI, 20, .inl (fun _ => 0)))]) [2, 3] rfl
  have hDc := hD.sub (ws' := [(y, .inr (16, v.1)), ((v.2 9), .inl (cI, 20, .inl (fun _ => 0)))]) [2, 3] (by decide) rfl
  have hFc := va_free (wc := [(y, .inr (16, v.1)), ((v.2 9), .inl (cI, 20, .inl (fun _ => 0)))]) hD hS hA [2, 3] rfl
  refine va_calli (va_runV (As := [.int (xs 1)]) (rest := []) ⟨hx, hb, hml, hown, hts⟩ (kf_X13_inverse l dC dI cI cB cJ cZ y (v.2 9) H.size v.1 hv.1 (hv.2.at 11 rfl) (xs 1)) (cwV 1 hts gw_X13_inverse rfl rfl rfl (by decide +kernel) ⟨(Nat.le_of_ble_eq_true rfl), (Nat.le_of_ble_eq_true rfl)⟩) ⟨fun a U g mk q => by obtain ⟨q0, q1, qP, qK, qD⟩ := q; exact ⟨q0, q1, qP, va_K.moved (u := U) (U := U.calling g mk a) (Vm.Alike.refl U.vm) qK, qD⟩, va_recv hK hPc (ci := 16) (q0 := 0) rfl rfl, fun U hU hW => ⟨rfl, by rw [hU], by rw [hU]; exact hPc, va_K.moved hW.alike hK, hDc.weaken (fun _ _ _ _ => trivial)⟩⟩ rfl rfl hl.1 rfl (lv_room (Nat.le_of_ble_eq_true rfl)) dL_law_2191 ⟨(Nat.le_of_ble_eq_true rfl), (Nat.le_of_ble_eq_true rfl)⟩) hS (fun q _ h => hFc q h) hFc (fun r9 g9 t H1 locs ht hvm hw hB hz1 hk1 hS => ?_)
  obtain ⟨hP1, hD1⟩ := hB
  rw [ht] at hP1
  obtain ⟨hP, hD⟩ := va_join (wr := [(x, .inr (14, [.ref (u 0), .ref (u 1), .ref (u 2), .ref (u 3), .ref (u 4), .ref (u 5), .ref (u 6), .ref (u 7), .ref (u 8), .ref (u 9), .ref (u 10), .ref (u 11), .ref (u 12), .ref (u 13), .ref (u 14), .ref (u 15), .ref (u 16), .ref (u 17), .ref (u 18)])), ((u 14), .inl (cI, 20, .inl (fun _ => 0))), (qo, .inl (cJ, 1, .inr (.inl (fun _ => 0))))]) (w1 := [(y, .inr (16, g9))]) hP hD [2, 3] [0, 1, 4] rfl rfl (by decide) (by decide) hk1 hFc hP1 hD1
  generalize H1 = H at hP hS ⊢
  have hP : va_P (dC, dI) vwCl [(x, .inr (14, [.ref (u 0), .ref (u 1), .ref (u 2), .ref (u 3), .ref (u 4), .ref (u 5), .ref (u 6), .ref (u 7), .ref (u 8), .ref (u 9), .ref (u 10), .ref (u 11), .ref (u 12), .ref (u 13), .ref (u 14), .ref (u 15), .ref (u 16), .ref (u 17), .ref (u 18)])), ((u 14), .inl (cI, 20, .inl (fun _ => 0))), (qo, .inl (cJ, 1, .inr (.inl (fun _ => 0)))), (y, .inr (16, g9))] H := hP
  have hD : va_D (fun q : Nat => s.heap.size ≤ q) [(x, .inr (14, [.ref (u 0), .ref (u 1), .ref (u 2), .ref (u 3), .ref (u 4), .ref (u 5), .ref (u 6), .ref (u 7), .ref (u 8), .ref (u 9), .ref (u 10), .ref (u 11), .ref (u 12), .ref (u 13), .ref (u 14), .ref (u 15), .ref (u 16), .ref (u 17), .ref (u 18)])), ((u 14), .inl (cI, 20, .inl (fun _ => 0))), (qo, .inl (cJ, 1, .inr (.inl (fun _ => 0)))), (y, .inr (16, g9))] := hD
  obtain ⟨hr9, hg0⟩ := hw
  subst hr9
  refine lv_istore (lv' := [(6, .int 0), (5, .int 1), (0, .ref b), (1, .ref x), (2, .ref y), (3, .ref qo), (4, .int 0)]) hx hb dL_law_2194 hl (by decide) rfl (fun ls hl => ?_)
  refine lv_aload_n hx hb dL_law_2196 rfl (lv_at hl 4 rfl) ?_
  have hPc := hP.sub (ws' := [(y, .inr (16, g9))]) [3] rfl
  refine va_calli (va_runV (As := []) (rest := []) ⟨hx, hb, hml, hown, hts⟩ (kf_X13_thrownN l dC dI cI cB cJ cZ y g9 1 hg0) (cwV 0 hts gw_X13_thrown rfl rfl rfl (by decide +kernel) ⟨(Nat.le_of_ble_eq_true rfl), (Nat.le_of_ble_eq_true rfl)⟩) ⟨fun a U g mk q => by obtain ⟨q0, qP, qK⟩ := q; exact ⟨q0, qP, va_K.moved (u := U) (U := U.calling g mk a) (Vm.Alike.refl U.vm) qK⟩, va_recv hK hPc (ci := 16) (q0 := 0) rfl rfl, fun U hU hW => ⟨rfl, by rw [hU]; exact hPc, va_K.moved hW.alike hK⟩⟩ rfl rfl hl.1 rfl (lv_room (Nat.le_of_ble_eq_true rfl)) dL_law_2197 ⟨(Nat.le_of_ble_eq_true rfl), (Nat.le_of_ble_eq_true rfl)⟩) hS (fun q _ h => h.elim) (fun q h => h.elim) (fun r8 un t H1 locs ht hvm hw8 hB hz1 hk1 hS => ?_)
  obtain rfl : r8 = 1 := hw8
  have hP := hP.kept (fun k9 x9 h9 => hk1 x9.1 ((hP k9 x9 h9).lt) id)
  generalize H1 = H at hP hS ⊢
  refine lv_iload hx hb dL_law_2200 (lv_at hl 1 rfl) ?_
  refine lv_icmp_eq (tgt := 2207) hx hb dL_law_2202 (by decide) (fun _ => ?_) (fun c9 => absurd (rfl) c9)
  refine lv_iload hx hb dL_law_2207 (lv_at hl 1 rfl) ?_
  refine lv_if_ne (tgt := 2224) hx hb dL_law_2209 (by decide) (fun _ => ?_) (fun c9 => absurd c9 (by decide))
  refine lv_goto (tgt := 2616) hx hb dL_law_2224 (by decide) ?_
  exact lc_fin C0 hS (lv_sub hl [2, 6] rfl) (Nat.le_of_ble_eq_true rfl) (Nat.le_of_ble_eq_true rfl)
theorem dL_law_2227 : decode cL_law 2227 = .ok (.aload_n 1, 1) := by decide +kernel
theorem dL_law_2228 : decode cL_law 2228 = .ok (.aload_n 0, 1) := by decide +kernel
theorem dL_law_2229 : decode cL_law 2229 = .ok (.iload 4, 2) := by decide +kernel
theorem dL_law_2231 : decode cL_law 2231 = .ok (.iconst 1, 1) := by decide +kernel
theorem dL_law_2232 : decode cL_law 2232 = .ok (.iadd, 1) := by decide +kernel
theorem dL_law_2233 : decode cL_law 2233 = .ok (.iaload, 1) := by decide +kernel
theorem dL_law_2234 : decode cL_law 2234 = .ok (.aload_n 0, 1) := by decide +kernel
theorem dL_law_2235 : decode cL_law 2235 = .ok (.iload 4, 2) := by decide +kernel
theorem dL_law_2237 : decode cL_law 2237 = .ok (.iconst 2, 1) := by decide +kernel
theorem dL_law_2238 : decode cL_law 2238 = .ok (.iadd, 1) := by decide +kernel
theorem dL_law_2239 : decode cL_law 2239 = .ok (.iaload, 1) := by decide +kernel
theorem dL_law_2240 : decode cL_law 2240 = .ok (.aload_n 3, 1) := by decide +kernel
theorem dL_law_2241 : decode cL_law 2241 = .ok (.invokestatic 248, 3) := by decide +kernel
theorem dL_law_2244 : decode cL_law 2244 = .ok (.istore 5, 2) := by decide +kernel
theorem dL_law_2246 : decode cL_law 2246 = .ok (.aload_n 2, 1) := by decide +kernel
theorem dL_law_2247 : decode cL_law 2247 = .ok (.aload_n 0, 1) := by decide +kernel
theorem dL_law_2248 : decode cL_law 2248 = .ok (.iload 4, 2) := by decide +kernel
theorem dL_law_2250 : decode cL_law 2250 = .ok (.iconst 1, 1) := by decide +kernel
theorem dL_law_2251 : decode cL_law 2251 = .ok (.iadd, 1) := by decide +kernel
theorem dL_law_2252 : decode cL_law 2252 = .ok (.iaload, 1) := by decide +kernel
theorem dL_law_2253 : decode cL_law 2253 = .ok (.aload_n 0, 1) := by decide +kernel
theorem dL_law_2254 : decode cL_law 2254 = .ok (.iload 4, 2) := by decide +kernel
theorem dL_law_2256 : decode cL_law 2256 = .ok (.iconst 2, 1) := by decide +kernel
theorem dL_law_2257 : decode cL_law 2257 = .ok (.iadd, 1) := by decide +kernel
theorem dL_law_2258 : decode cL_law 2258 = .ok (.iaload, 1) := by decide +kernel
theorem dL_law_2259 : decode cL_law 2259 = .ok (.invokevirtual 250, 3) := by decide +kernel
theorem dL_law_2262 : decode cL_law 2262 = .ok (.istore 6, 2) := by decide +kernel
theorem dL_law_2264 : decode cL_law 2264 = .ok (.aload_n 2, 1) := by decide +kernel
theorem dL_law_2265 : decode cL_law 2265 = .ok (.invokevirtual 137, 3) := by decide +kernel
theorem dL_law_2268 : decode cL_law 2268 = .ok (.iload 5, 2) := by decide +kernel
theorem dL_law_2270 : decode cL_law 2270 = .ok (.if_icmp .eq 5, 3) := by decide +kernel
theorem dL_law_2273 : decode cL_law 2273 = .ok (.iconst 0, 1) := by decide +kernel
theorem dL_law_2274 : decode cL_law 2274 = .ok (.ireturn, 1) := by decide +kernel
theorem dL_law_2275 : decode cL_law 2275 = .ok (.iload 5, 2) := by decide +kernel
theorem dL_law_2277 : decode cL_law 2277 = .ok (.ifCond .ne 15, 3) := by decide +kernel
theorem dL_law_2280 : decode cL_law 2280 = .ok (.aload_n 3, 1) := by decide +kernel
theorem dL_law_2281 : decode cL_law 2281 = .ok (.iconst 0, 1) := by decide +kernel
theorem dL_law_2282 : decode cL_law 2282 = .ok (.laload, 1) := by decide +kernel
theorem dL_law_2283 : decode cL_law 2283 = .ok (.iload 6, 2) := by decide +kernel
theorem dL_law_2285 : decode cL_law 2285 = .ok (.i2l, 1) := by decide +kernel
theorem dL_law_2286 : decode cL_law 2286 = .ok (.lcmp, 1) := by decide +kernel
theorem dL_law_2287 : decode cL_law 2287 = .ok (.ifCond .eq 5, 3) := by decide +kernel
theorem dL_law_2290 : decode cL_law 2290 = .ok (.iconst 0, 1) := by decide +kernel
theorem dL_law_2291 : decode cL_law 2291 = .ok (.ireturn, 1) := by decide +kernel
theorem dL_law_2292 : decode cL_law 2292 = .ok (.goto 324, 3) := by decide +kernel
set_option maxHeartbeats 4000000 in
set_option maxRecDepth 100000 in
theorem lc_normal {p : Program} {l : Launch} {e : Env} {s : State} {m : MethodId} {below : List Frame} {meth : Method} {c : Code} {b : Nat} {xs : Nat → Int32} {dC : Nat → ClassId} {dI : Nat → Nat → Nat} {cI cB cJ cZ : ClassId} {sa : Nat → Nat} (C0 : lw_At p s m meth c b 6 xs) (hG : ow_LG l s dC dI cI cB cJ cZ sa) {x y qo : Nat} {u : Nat → Nat} {v : List Value × (Nat → Nat)} (hv : kn_X13_init v) {H : Heap} {locs : List Loc} {ls : Array Slot} (hP : va_P (dC, dI) vwCl (wd_X11_init cI cB cJ x u ++ (wd_X13_init cI cB y v ++ [(qo, .inl (cJ, 1, .inr (.inl (fun _ => 0))))])) H) (hD : va_D (fun q : Nat => s.heap.size ≤ q) (wd_X11_init cI cB cJ x u ++ (wd_X13_init cI cB y v ++ [(qo, .inl (cJ, 1, .inr (.inl (fun _ => 0))))]))) (hS : va_S (fun q : Nat => s.heap.size ≤ q) s.heap H locs) (hl : lv_has ls 8 [(0, .ref b), (1, .ref x), (2, .ref y), (3, .ref qo), (4, .int 0)]) : W p l e room_1 s m #[Value.ref b] below meth c H locs 694 1334208 (lw_Z below #[Value.ref b] s) (F0 m 2227 ls []) := by
  obtain ⟨hx, hb, hr, hml, hown, hts, hX, hbl, hlocks, hgv⟩ := id C0
  have hown : s.vm.findClass RL = some m.cls := hown
  have hA : ∀ q : Nat, s.heap.size ≤ q → (fun q : Nat => s.heap.size ≤ q) q := fun _ h => h
  have hbA : ¬ (fun q : Nat => s.heap.size ≤ q) b := Nat.not_le.mpr hbl
  have hK := hG.2.1
  have hP := hP.sub (ws' := [(x, .inr (14, [.ref (u 0), .ref (u 1), .ref (u 2), .ref (u 3), .ref (u 4), .ref (u 5), .ref (u 6), .ref (u 7), .ref (u 8), .ref (u 9), .ref (u 10), .ref (u 11), .ref (u 12), .ref (u 13), .ref (u 14), .ref (u 15), .ref (u 16), .ref (u 17), .ref (u 18)])), ((u 14), .inl (cI, 20, .inl (fun _ => 0))), (y, .inr (16, v.1)), ((v.2 9), .inl (cI, 20, .inl (fun _ => 0))), (qo, .inl (cJ, 1, .inr (.inl (fun _ => 0))))]) [0, 59, 60, 70, 71] rfl
  have hD := hD.sub (ws' := [(x, .inr (14, [.ref (u 0), .ref (u 1), .ref (u 2), .ref (u 3), .ref (u 4), .ref (u 5), .ref (u 6), .ref (u 7), .ref (u 8), .ref (u 9), .ref (u 10), .ref (u 11), .ref (u 12), .ref (u 13), .ref (u 14), .ref (u 15), .ref (u 16), .ref (u 17), .ref (u 18)])), ((u 14), .inl (cI, 20, .inl (fun _ => 0))), (y, .inr (16, v.1)), ((v.2 9), .inl (cI, 20, .inl (fun _ => 0))), (qo, .inl (cJ, 1, .inr (.inl (fun _ => 0))))]) [0, 59, 60, 70, 71] (by decide) rfl
  refine lv_aload_n hx hb dL_law_2227 rfl (lv_at hl 1 rfl) ?_
  refine lv_aload_n hx hb dL_law_2228 rfl (lv_at hl 0 rfl) ?_
  refine lv_iload hx hb dL_law_2229 (lv_at hl 4 rfl) ?_
  refine lv_iconst (v := 1) hx hb dL_law_2231 (by decide) ?_
  refine lv_iadd hx hb dL_law_2232 ?_
  refine ow_topi (y := 1) (by decide) ?_
  refine va_sld hx hb hX hbl hbA hS (vp_in_nI (n := 1) (N := 6) (by decide) (by decide)) dL_law_2233 ?_
  refine ow_topi (y := xs 1) (congrArg xs (by decide)) ?_
  refine lv_aload_n hx hb dL_law_2234 rfl (lv_at hl 0 rfl) ?_
  refine lv_iload hx hb dL_law_2235 (lv_at hl 4 rfl) ?_
  refine lv_iconst (v := 2) hx hb dL_law_2237 (by decide) ?_
  refine lv_iadd hx hb dL_law_2238 ?_
  refine ow_topi (y := 2) (by decide) ?_
  refine va_sld hx hb hX hbl hbA hS (vp_in_nI (n := 2) (N := 6) (by decide) (by decide)) dL_law_2239 ?_
  refine ow_topi (y := xs 2) (congrArg xs (by decide)) ?_
  refine lv_aload_n hx hb dL_law_2240 rfl (lv_at hl 3 rfl) ?_
  have hPc := hP.sub (ws' := [(x, .inr (14, [.ref (u 0), .ref (u 1), .ref (u 2), .ref (u 3), .ref (u 4), .ref (u 5), .ref (u 6), .ref (u 7), .ref (u 8), .ref (u 9), .ref (u 10), .ref (u 11), .ref (u 12), .ref (u 13), .ref (u 14), .ref (u 15), .ref (u 16), .ref (u 17), .ref (u 18)])), ((u 14), .inl (cI, 20, .inl (fun _ => 0)))]) [0, 1] rfl
  refine vx_calli (vx_runSX (As := [.ref x, .int (xs 1), .int (xs 2), .ref qo]) (rest := []) ⟨hx, hb, hml, hown, hts⟩ (kf_L_normal l dC dI cI cB cJ cZ hG.1 x (sa 1) qo u (xs 1) (xs 2)) (vx_cwSW 4 hts gw_L_normal rfl rfl rfl (by decide +kernel) ⟨(Nat.le_of_ble_eq_true rfl), (Nat.le_of_ble_eq_true rfl)⟩) ⟨fun a U g mk q => by obtain ⟨q0, qP, qK, qT⟩ := q; exact ⟨q0, qP, va_K.moved (u := U) (U := U.calling g mk a) (Vm.Alike.refl U.vm) qK, qT.same rfl rfl⟩, fun U hU hW => ⟨rfl, by rw [hU]; exact hPc, va_K.moved hW.alike hK, (hG.2.2.2.2.1).to hS hW hU (fun q h => h.elim)⟩⟩ rfl rfl hl.1 rfl (lv_room (Nat.le_of_ble_eq_true rfl)) dL_law_2241 ⟨(Nat.le_of_ble_eq_true rfl), (Nat.le_of_ble_eq_true rfl)⟩) hS (fun q _ h => h.elim) (fun q h => h.elim) (fun q _ h => h.elim) (fun E ce q9 u9 t H1 locs1 ht hvm hp hB hz hk hS hce hcv hcl => hp.elim) (fun r7 g7 t H1 locs ht hvm hw hB hz1 hk1 hS => ?_)
  obtain rfl : r7 = 1 := hw
  have hP := hP.kept (fun k9 x9 h9 => hk1 x9.1 ((hP k9 x9 h9).lt) id)
  generalize H1 = H at hP hS ⊢
  refine W.widen (k := 695) (n := 1334214) (Nat.le_of_ble_eq_true rfl) (Nat.le_of_ble_eq_true rfl) ?_
  refine lv_istore (lv' := [(5, .int 1), (0, .ref b), (1, .ref x), (2, .ref y), (3, .ref qo), (4, .int 0)]) hx hb dL_law_2244 hl (by decide) rfl (fun ls hl => ?_)
  refine lv_aload_n hx hb dL_law_2246 rfl (lv_at hl 3 rfl) ?_
  refine lv_aload_n hx hb dL_law_2247 rfl (lv_at hl 1 rfl) ?_
  refine lv_iload hx hb dL_law_2248 (lv_at hl 5 rfl) ?_
  refine lv_iconst (v := 1) hx hb dL_law_2250 (by decide) ?_
  refine lv_iadd hx hb dL_law_2251 ?_
  refine ow_topi (y := 1) (by decide) ?_
  refine va_sld hx hb hX hbl hbA hS (vp_in_nI (n := 1) (N := 6) (by decide) (by decide)) dL_law_2252 ?_
  refine ow_topi (y := xs 1) (congrArg xs (by decide)) ?_
  refine lv_aload_n hx hb dL_law_2253 rfl (lv_at hl 1 rfl) ?_
  refine lv_iload hx hb dL_law_2254 (lv_at hl 5 rfl) ?_
  refine lv_iconst (v := 2) hx hb dL_law_2256 (by decide) ?_
  refine lv_iadd hx hb dL_law_2257 ?_
  refine ow_topi (y := 2) (by decide) ?_
  refine va_sld hx hb hX hbl hbA hS (vp_in_nI (n := 2) (N := 6) (by decide) (by decide)) dL_law_2258 ?_
  refine ow_topi (y := xs 2) (congrArg xs (by decide)) ?_
  have hPc := hP.sub (ws' := [(y, .inr (16, v.1)), ((v.2 9), .inl (cI, 20, .inl (fun _ => 0)))]) [2, 3] rfl
  have hDc := hD.sub (ws' := [(y, .inr (16, v.1)), ((v.2 9), .inl (cI, 20, .inl (fun _ => 0)))]) [2, 3] (by decide) rfl
  have hFc := va_free (wc := [(y, .inr (16, v.1)), ((v.2 9), .inl (cI, 20, .inl (fun _ => 0)))]) hD hS hA [2, 3] rfl
  refine va_calli (va_runV (As := [.int (xs 1), .int (xs 2)]) (rest := []) ⟨hx, hb, hml, hown, hts⟩ (kf_X13_normal l dC dI cI cB cJ cZ y (v.2 9) H.size v.1 hv.1 (hv.2.at 11 rfl) (xs 1) (xs 2)) (cwV 2 hts gw_X13_normal rfl rfl rfl (by decide +kernel) ⟨(Nat.le_of_ble_eq_true rfl), (Nat.le_of_ble_eq_true rfl)⟩) ⟨fun a U g mk q => by obtain ⟨q0, q1, qP, qK, qD⟩ := q; exact ⟨q0, q1, qP, va_K.moved (u := U) (U := U.calling g mk a) (Vm.Alike.refl U.vm) qK, qD⟩, va_recv hK hPc (ci := 16) (q0 := 0) rfl rfl, fun U hU hW => ⟨rfl, by rw [hU], by rw [hU]; exact hPc, va_K.moved hW.alike hK, hDc.weaken (fun _ _ _ _ => trivial)⟩⟩ rfl rfl hl.1 rfl (lv_room (Nat.le_of_ble_eq_true rfl)) dL_law_2259 ⟨(Nat.le_of_ble_eq_true rfl), (Nat.le_of_ble_eq_true rfl)⟩) hS (fun q _ h => hFc q h) hFc (fun r9 g9 t H1 locs ht hvm hw hB hz1 hk1 hS => ?_)
  obtain ⟨hP1, hD1⟩ := hB
  rw [ht] at hP1
  obtain ⟨hP, hD⟩ := va_join (wr := [(x, .inr (14, [.ref (u 0), .ref (u 1), .ref (u 2), .ref (u 3), .ref (u 4), .ref (u 5), .ref (u 6), .ref (u 7), .ref (u 8), .ref (u 9), .ref (u 10), .ref (u 11), .ref (u 12), .ref (u 13), .ref (u 14), .ref (u 15), .ref (u 16), .ref (u 17), .ref (u 18)])), ((u 14), .inl (cI, 20, .inl (fun _ => 0))), (qo, .inl (cJ, 1, .inr (.inl (fun _ => 0))))]) (w1 := [(y, .inr (16, g9))]) hP hD [2, 3] [0, 1, 4] rfl rfl (by decide) (by decide) hk1 hFc hP1 hD1
  generalize H1 = H at hP hS ⊢
  have hP : va_P (dC, dI) vwCl [(x, .inr (14, [.ref (u 0), .ref (u 1), .ref (u 2), .ref (u 3), .ref (u 4), .ref (u 5), .ref (u 6), .ref (u 7), .ref (u 8), .ref (u 9), .ref (u 10), .ref (u 11), .ref (u 12), .ref (u 13), .ref (u 14), .ref (u 15), .ref (u 16), .ref (u 17), .ref (u 18)])), ((u 14), .inl (cI, 20, .inl (fun _ => 0))), (qo, .inl (cJ, 1, .inr (.inl (fun _ => 0)))), (y, .inr (16, g9))] H := hP
  have hD : va_D (fun q : Nat => s.heap.size ≤ q) [(x, .inr (14, [.ref (u 0), .ref (u 1), .ref (u 2), .ref (u 3), .ref (u 4), .ref (u 5), .ref (u 6), .ref (u 7), .ref (u 8), .ref (u 9), .ref (u 10), .ref (u 11), .ref (u 12), .ref (u 13), .ref (u 14), .ref (u 15), .ref (u 16), .ref (u 17), .ref (u 18)])), ((u 14), .inl (cI, 20, .inl (fun _ => 0))), (qo, .inl (cJ, 1, .inr (.inl (fun _ => 0)))), (y, .inr (16, g9))] := hD
  obtain ⟨hr9, hg0⟩ := hw
  subst hr9
  refine lv_istore (lv' := [(6, .int 0), (5, .int 1), (0, .ref b), (1, .ref x), (2, .ref y), (3, .ref qo), (4, .int 0)]) hx hb dL_law_2262 hl (by decide) rfl (fun ls hl => ?_)
  refine lv_aload_n hx hb dL_law_2264 rfl (lv_at hl 4 rfl) ?_
  have hPc := hP.sub (ws' := [(y, .inr (16, g9))]) [3] rfl
  refine va_calli (va_runV (As := []) (rest := []) ⟨hx, hb, hml, hown, hts⟩ (kf_X13_thrownN l dC dI cI cB cJ cZ y g9 1 hg0) (cwV 0 hts gw_X13_thrown rfl rfl rfl (by decide +kernel) ⟨(Nat.le_of_ble_eq_true rfl), (Nat.le_of_ble_eq_true rfl)⟩) ⟨fun a U g mk q => by obtain ⟨q0, qP, qK⟩ := q; exact ⟨q0, qP, va_K.moved (u := U) (U := U.calling g mk a) (Vm.Alike.refl U.vm) qK⟩, va_recv hK hPc (ci := 16) (q0 := 0) rfl rfl, fun U hU hW => ⟨rfl, by rw [hU]; exact hPc, va_K.moved hW.alike hK⟩⟩ rfl rfl hl.1 rfl (lv_room (Nat.le_of_ble_eq_true rfl)) dL_law_2265 ⟨(Nat.le_of_ble_eq_true rfl), (Nat.le_of_ble_eq_true rfl)⟩) hS (fun q _ h => h.elim) (fun q h => h.elim) (fun r8 un t H1 locs ht hvm hw8 hB hz1 hk1 hS => ?_)
  obtain rfl : r8 = 1 := hw8
  have hP := hP.kept (fun k9 x9 h9 => hk1 x9.1 ((hP k9 x9 h9).lt) id)
  generalize H1 = H at hP hS ⊢
  refine lv_iload hx hb dL_law_2268 (lv_at hl 1 rfl) ?_
  refine lv_icmp_eq (tgt := 2275) hx hb dL_law_2270 (by decide) (fun _ => ?_) (fun c9 => absurd (rfl) c9)
  refine lv_iload hx hb dL_law_2275 (lv_at hl 1 rfl) ?_
  refine lv_if_ne (tgt := 2292) hx hb dL_law_2277 (by decide) (fun _ => ?_) (fun c9 => absurd c9 (by decide))
  refine lv_goto (tgt := 2616) hx hb dL_law_2292 (by decide) ?_
  exact lc_fin C0 hS (lv_sub hl [2, 6] rfl) (Nat.le_of_ble_eq_true rfl) (Nat.le_of_ble_eq_true rfl)
theorem dL_law_2295 : decode cL_law 2295 = .ok (.aload_n 1, 1) := by decide +kernel
theorem dL_law_2296 : decode cL_law 2296 = .ok (.aload_n 0, 1) := by decide +kernel
theorem dL_law_2297 : decode cL_law 2297 = .ok (.iload 4, 2) := by decide +kernel
theorem dL_law_2299 : decode cL_law 2299 = .ok (.iconst 1, 1) := by decide +kernel
theorem dL_law_2300 : decode cL_law 2300 = .ok (.iadd, 1) := by decide +kernel
theorem dL_law_2301 : decode cL_law 2301 = .ok (.iaload, 1) := by decide +kernel
theorem dL_law_2302 : decode cL_law 2302 = .ok (.aload_n 0, 1) := by decide +kernel
theorem dL_law_2303 : decode cL_law 2303 = .ok (.iload 4, 2) := by decide +kernel
theorem dL_law_2305 : decode cL_law 2305 = .ok (.iconst 2, 1) := by decide +kernel
theorem dL_law_2306 : decode cL_law 2306 = .ok (.iadd, 1) := by decide +kernel
theorem dL_law_2307 : decode cL_law 2307 = .ok (.iaload, 1) := by decide +kernel
theorem dL_law_2308 : decode cL_law 2308 = .ok (.aload_n 0, 1) := by decide +kernel
theorem dL_law_2309 : decode cL_law 2309 = .ok (.iload 4, 2) := by decide +kernel
theorem dL_law_2311 : decode cL_law 2311 = .ok (.iconst 3, 1) := by decide +kernel
theorem dL_law_2312 : decode cL_law 2312 = .ok (.iadd, 1) := by decide +kernel
theorem dL_law_2313 : decode cL_law 2313 = .ok (.iaload, 1) := by decide +kernel
theorem dL_law_2314 : decode cL_law 2314 = .ok (.aload_n 3, 1) := by decide +kernel
theorem dL_law_2315 : decode cL_law 2315 = .ok (.invokestatic 251, 3) := by decide +kernel
theorem dL_law_2318 : decode cL_law 2318 = .ok (.istore 5, 2) := by decide +kernel
theorem dL_law_2320 : decode cL_law 2320 = .ok (.aload_n 2, 1) := by decide +kernel
theorem dL_law_2321 : decode cL_law 2321 = .ok (.aload_n 0, 1) := by decide +kernel
theorem dL_law_2322 : decode cL_law 2322 = .ok (.iload 4, 2) := by decide +kernel
theorem dL_law_2324 : decode cL_law 2324 = .ok (.iconst 1, 1) := by decide +kernel
theorem dL_law_2325 : decode cL_law 2325 = .ok (.iadd, 1) := by decide +kernel
theorem dL_law_2326 : decode cL_law 2326 = .ok (.iaload, 1) := by decide +kernel
theorem dL_law_2327 : decode cL_law 2327 = .ok (.aload_n 0, 1) := by decide +kernel
theorem dL_law_2328 : decode cL_law 2328 = .ok (.iload 4, 2) := by decide +kernel
theorem dL_law_2330 : decode cL_law 2330 = .ok (.iconst 2, 1) := by decide +kernel
theorem dL_law_2331 : decode cL_law 2331 = .ok (.iadd, 1) := by decide +kernel
theorem dL_law_2332 : decode cL_law 2332 = .ok (.iaload, 1) := by decide +kernel
theorem dL_law_2333 : decode cL_law 2333 = .ok (.aload_n 0, 1) := by decide +kernel
theorem dL_law_2334 : decode cL_law 2334 = .ok (.iload 4, 2) := by decide +kernel
theorem dL_law_2336 : decode cL_law 2336 = .ok (.iconst 3, 1) := by decide +kernel
theorem dL_law_2337 : decode cL_law 2337 = .ok (.iadd, 1) := by decide +kernel
theorem dL_law_2338 : decode cL_law 2338 = .ok (.iaload, 1) := by decide +kernel
theorem dL_law_2339 : decode cL_law 2339 = .ok (.invokevirtual 253, 3) := by decide +kernel
theorem dL_law_2342 : decode cL_law 2342 = .ok (.istore 6, 2) := by decide +kernel
theorem dL_law_2344 : decode cL_law 2344 = .ok (.aload_n 2, 1) := by decide +kernel
theorem dL_law_2345 : decode cL_law 2345 = .ok (.invokevirtual 137, 3) := by decide +kernel
theorem dL_law_2348 : decode cL_law 2348 = .ok (.iload 5, 2) := by decide +kernel
theorem dL_law_2350 : decode cL_law 2350 = .ok (.if_icmp .eq 5, 3) := by decide +kernel
theorem dL_law_2353 : decode cL_law 2353 = .ok (.iconst 0, 1) := by decide +kernel
theorem dL_law_2354 : decode cL_law 2354 = .ok (.ireturn, 1) := by decide +kernel
theorem dL_law_2355 : decode cL_law 2355 = .ok (.iload 5, 2) := by decide +kernel
theorem dL_law_2357 : decode cL_law 2357 = .ok (.ifCond .ne 15, 3) := by decide +kernel
theorem dL_law_2360 : decode cL_law 2360 = .ok (.aload_n 3, 1) := by decide +kernel
theorem dL_law_2361 : decode cL_law 2361 = .ok (.iconst 0, 1) := by decide +kernel
theorem dL_law_2362 : decode cL_law 2362 = .ok (.laload, 1) := by decide +kernel
theorem dL_law_2363 : decode cL_law 2363 = .ok (.iload 6, 2) := by decide +kernel
theorem dL_law_2365 : decode cL_law 2365 = .ok (.i2l, 1) := by decide +kernel
theorem dL_law_2366 : decode cL_law 2366 = .ok (.lcmp, 1) := by decide +kernel
theorem dL_law_2367 : decode cL_law 2367 = .ok (.ifCond .eq 5, 3) := by decide +kernel
theorem dL_law_2370 : decode cL_law 2370 = .ok (.iconst 0, 1) := by decide +kernel
theorem dL_law_2371 : decode cL_law 2371 = .ok (.ireturn, 1) := by decide +kernel
theorem dL_law_2372 : decode cL_law 2372 = .ok (.goto 244, 3) := by decide +kernel
set_option maxHeartbeats 4000000 in
set_option maxRecDepth 100000 in
theorem lc_factor {p : Program} {l : Launch} {e : Env} {s : State} {m : MethodId} {below : List Frame} {meth : Method} {c : Code} {b : Nat} {xs : Nat → Int32} {dC : Nat → ClassId} {dI : Nat → Nat → Nat} {cI cB cJ cZ : ClassId} {sa : Nat → Nat} (C0 : lw_At p s m meth c b 6 xs) (hG : ow_LG l s dC dI cI cB cJ cZ sa) {x y qo : Nat} {u : Nat → Nat} {v : List Value × (Nat → Nat)} (hv : kn_X13_init v) {H : Heap} {locs : List Loc} {ls : Array Slot} (hP : va_P (dC, dI) vwCl (wd_X11_init cI cB cJ x u ++ (wd_X13_init cI cB y v ++ [(qo, .inl (cJ, 1, .inr (.inl (fun _ => 0))))])) H) (hD : va_D (fun q : Nat => s.heap.size ≤ q) (wd_X11_init cI cB cJ x u ++ (wd_X13_init cI cB y v ++ [(qo, .inl (cJ, 1, .inr (.inl (fun _ => 0))))]))) (hS : va_S (fun q : Nat => s.heap.size ≤ q) s.heap H locs) (hl : lv_has ls 8 [(0, .ref b), (1, .ref x), (2, .ref y), (3, .ref qo), (4, .int 0)]) : W p l e room_1 s m #[Value.ref b] below meth c H locs 694 1334208 (lw_Z below #[Value.ref b] s) (F0 m 2295 ls []) := by
  obtain ⟨hx, hb, hr, hml, hown, hts, hX, hbl, hlocks, hgv⟩ := id C0
  have hown : s.vm.findClass RL = some m.cls := hown
  have hA : ∀ q : Nat, s.heap.size ≤ q → (fun q : Nat => s.heap.size ≤ q) q := fun _ h => h
  have hbA : ¬ (fun q : Nat => s.heap.size ≤ q) b := Nat.not_le.mpr hbl
  have hK := hG.2.1
  have hP := hP.sub (ws' := [(x, .inr (14, [.ref (u 0), .ref (u 1), .ref (u 2), .ref (u 3), .ref (u 4), .ref (u 5), .ref (u 6), .ref (u 7), .ref (u 8), .ref (u 9), .ref (u 10), .ref (u 11), .ref (u 12), .ref (u 13), .ref (u 14), .ref (u 15), .ref (u 16), .ref (u 17), .ref (u 18)])), ((u 14), .inl (cI, 20, .inl (fun _ => 0))), (y, .inr (16, v.1)), ((v.2 9), .inl (cI, 20, .inl (fun _ => 0))), (qo, .inl (cJ, 1, .inr (.inl (fun _ => 0))))]) [0, 59, 60, 70, 71] rfl
  have hD := hD.sub (ws' := [(x, .inr (14, [.ref (u 0), .ref (u 1), .ref (u 2), .ref (u 3), .ref (u 4), .ref (u 5), .ref (u 6), .ref (u 7), .ref (u 8), .ref (u 9), .ref (u 10), .ref (u 11), .ref (u 12), .ref (u 13), .ref (u 14), .ref (u 15), .ref (u 16), .ref (u 17), .ref (u 18)])), ((u 14), .inl (cI, 20, .inl (fun _ => 0))), (y, .inr (16, v.1)), ((v.2 9), .inl (cI, 20, .inl (fun _ => 0))), (qo, .inl (cJ, 1, .inr (.inl (fun _ => 0))))]) [0, 59, 60, 70, 71] (by decide) rfl
  refine lv_aload_n hx hb dL_law_2295 rfl (lv_at hl 1 rfl) ?_
  refine lv_aload_n hx hb dL_law_2296 rfl (lv_at hl 0 rfl) ?_
  refine lv_iload hx hb dL_law_2297 (lv_at hl 4 rfl) ?_
  refine lv_iconst (v := 1) hx hb dL_law_2299 (by decide) ?_
  refine lv_iadd hx hb dL_law_2300 ?_
  refine ow_topi (y := 1) (by decide) ?_
  refine va_sld hx hb hX hbl hbA hS (vp_in_nI (n := 1) (N := 6) (by decide) (by decide)) dL_law_2301 ?_
  refine ow_topi (y := xs 1) (congrArg xs (by decide)) ?_
  refine lv_aload_n hx hb dL_law_2302 rfl (lv_at hl 0 rfl) ?_
  refine lv_iload hx hb dL_law_2303 (lv_at hl 4 rfl) ?_
  refine lv_iconst (v := 2) hx hb dL_law_2305 (by decide) ?_
  refine lv_iadd hx hb dL_law_2306 ?_
  refine ow_topi (y := 2) (by decide) ?_
  refine va_sld hx hb hX hbl hbA hS (vp_in_nI (n := 2) (N := 6) (by decide) (by decide)) dL_law_2307 ?_
  refine ow_topi (y := xs 2) (congrArg xs (by decide)) ?_
  refine lv_aload_n hx hb dL_law_2308 rfl (lv_at hl 0 rfl) ?_
  refine lv_iload hx hb dL_law_2309 (lv_at hl 4 rfl) ?_
  refine lv_iconst (v := 3) hx hb dL_law_2311 (by decide) ?_
  refine lv_iadd hx hb dL_law_2312 ?_
  refine ow_topi (y := 3) (by decide) ?_
  refine va_sld hx hb hX hbl hbA hS (vp_in_nI (n := 3) (N := 6) (by decide) (by decide)) dL_law_2313 ?_
  refine ow_topi (y := xs 3) (congrArg xs (by decide)) ?_
  refine lv_aload_n hx hb dL_law_2314 rfl (lv_at hl 3 rfl) ?_
  have hPc := hP.sub (ws' := [(x, .inr (14, [.ref (u 0), .ref (u 1), .ref (u 2), .ref (u 3), .ref (u 4), .ref (u 5), .ref (u 6), .ref (u 7), .ref (u 8), .ref (u 9), .ref (u 10), .ref (u 11), .ref (u 12), .ref (u 13), .ref (u 14), .ref (u 15), .ref (u 16), .ref (u 17), .ref (u 18)])), ((u 14), .inl (cI, 20, .inl (fun _ => 0)))]) [0, 1] rfl
  refine vx_calli (vx_runSX (As := [.ref x, .int (xs 1), .int (xs 2), .int (xs 3), .ref qo]) (rest := []) ⟨hx, hb, hml, hown, hts⟩ (kf_L_factor l dC dI cI cB cJ cZ hG.1 x (sa 1) qo u (xs 1) (xs 2) (xs 3)) (vx_cwSW 5 hts gw_L_factor rfl rfl rfl (by decide +kernel) ⟨(Nat.le_of_ble_eq_true rfl), (Nat.le_of_ble_eq_true rfl)⟩) ⟨fun a U g mk q => by obtain ⟨q0, qP, qK, qT⟩ := q; exact ⟨q0, qP, va_K.moved (u := U) (U := U.calling g mk a) (Vm.Alike.refl U.vm) qK, qT.same rfl rfl⟩, fun U hU hW => ⟨rfl, by rw [hU]; exact hPc, va_K.moved hW.alike hK, (hG.2.2.2.2.1).to hS hW hU (fun q h => h.elim)⟩⟩ rfl rfl hl.1 rfl (lv_room (Nat.le_of_ble_eq_true rfl)) dL_law_2315 ⟨(Nat.le_of_ble_eq_true rfl), (Nat.le_of_ble_eq_true rfl)⟩) hS (fun q _ h => h.elim) (fun q h => h.elim) (fun q _ h => h.elim) (fun E ce q9 u9 t H1 locs1 ht hvm hp hB hz hk hS hce hcv hcl => hp.elim) (fun r7 g7 t H1 locs ht hvm hw hB hz1 hk1 hS => ?_)
  obtain rfl : r7 = 1 := hw
  have hP := hP.kept (fun k9 x9 h9 => hk1 x9.1 ((hP k9 x9 h9).lt) id)
  generalize H1 = H at hP hS ⊢
  refine W.widen (k := 695) (n := 1334214) (Nat.le_of_ble_eq_true rfl) (Nat.le_of_ble_eq_true rfl) ?_
  refine lv_istore (lv' := [(5, .int 1), (0, .ref b), (1, .ref x), (2, .ref y), (3, .ref qo), (4, .int 0)]) hx hb dL_law_2318 hl (by decide) rfl (fun ls hl => ?_)
  refine lv_aload_n hx hb dL_law_2320 rfl (lv_at hl 3 rfl) ?_
  refine lv_aload_n hx hb dL_law_2321 rfl (lv_at hl 1 rfl) ?_
  refine lv_iload hx hb dL_law_2322 (lv_at hl 5 rfl) ?_
  refine lv_iconst (v := 1) hx hb dL_law_2324 (by decide) ?_
  refine lv_iadd hx hb dL_law_2325 ?_
  refine ow_topi (y := 1) (by decide) ?_
  refine va_sld hx hb hX hbl hbA hS (vp_in_nI (n := 1) (N := 6) (by decide) (by decide)) dL_law_2326 ?_
  refine ow_topi (y := xs 1) (congrArg xs (by decide)) ?_
  refine lv_aload_n hx hb dL_law_2327 rfl (lv_at hl 1 rfl) ?_
  refine lv_iload hx hb dL_law_2328 (lv_at hl 5 rfl) ?_
  refine lv_iconst (v := 2) hx hb dL_law_2330 (by decide) ?_
  refine lv_iadd hx hb dL_law_2331 ?_
  refine ow_topi (y := 2) (by decide) ?_
  refine va_sld hx hb hX hbl hbA hS (vp_in_nI (n := 2) (N := 6) (by decide) (by decide)) dL_law_2332 ?_
  refine ow_topi (y := xs 2) (congrArg xs (by decide)) ?_
  refine lv_aload_n hx hb dL_law_2333 rfl (lv_at hl 1 rfl) ?_
  refine lv_iload hx hb dL_law_2334 (lv_at hl 5 rfl) ?_
  refine lv_iconst (v := 3) hx hb dL_law_2336 (by decide) ?_
  refine lv_iadd hx hb dL_law_2337 ?_
  refine ow_topi (y := 3) (by decide) ?_
  refine va_sld hx hb hX hbl hbA hS (vp_in_nI (n := 3) (N := 6) (by decide) (by decide)) dL_law_2338 ?_
  refine ow_topi (y := xs 3) (congrArg xs (by decide)) ?_
  have hPc := hP.sub (ws' := [(y, .inr (16, v.1)), ((v.2 9), .inl (cI, 20, .inl (fun _ => 0)))]) [2, 3] rfl
  have hDc := hD.sub (ws' := [(y, .inr (16, v.1)), ((v.2 9), .inl (cI, 20, .inl (fun _ => 0)))]) [2, 3] (by decide) rfl
  have hFc := va_free (wc := [(y, .inr (16, v.1)), ((v.2 9), .inl (cI, 20, .inl (fun _ => 0)))]) hD hS hA [2, 3] rfl
  refine va_calli (va_runV (As := [.int (xs 1), .int (xs 2), .int (xs 3)]) (rest := []) ⟨hx, hb, hml, hown, hts⟩ (kf_X13_factor l dC dI cI cB cJ cZ y (v.2 9) H.size v.1 hv.1 (hv.2.at 11 rfl) (xs 1) (xs 2) (xs 3)) (cwV 3 hts gw_X13_factor rfl rfl rfl (by decide +kernel) ⟨(Nat.le_of_ble_eq_true rfl), (Nat.le_of_ble_eq_true rfl)⟩) ⟨fun a U g mk q => by obtain ⟨q0, q1, qP, qK, qD⟩ := q; exact ⟨q0, q1, qP, va_K.moved (u := U) (U := U.calling g mk a) (Vm.Alike.refl U.vm) qK, qD⟩, va_recv hK hPc (ci := 16) (q0 := 0) rfl rfl, fun U hU hW => ⟨rfl, by rw [hU], by rw [hU]; exact hPc, va_K.moved hW.alike hK, hDc.weaken (fun _ _ _ _ => trivial)⟩⟩ rfl rfl hl.1 rfl (lv_room (Nat.le_of_ble_eq_true rfl)) dL_law_2339 ⟨(Nat.le_of_ble_eq_true rfl), (Nat.le_of_ble_eq_true rfl)⟩) hS (fun q _ h => hFc q h) hFc (fun r9 g9 t H1 locs ht hvm hw hB hz1 hk1 hS => ?_)
  obtain ⟨hP1, hD1⟩ := hB
  rw [ht] at hP1
  obtain ⟨hP, hD⟩ := va_join (wr := [(x, .inr (14, [.ref (u 0), .ref (u 1), .ref (u 2), .ref (u 3), .ref (u 4), .ref (u 5), .ref (u 6), .ref (u 7), .ref (u 8), .ref (u 9), .ref (u 10), .ref (u 11), .ref (u 12), .ref (u 13), .ref (u 14), .ref (u 15), .ref (u 16), .ref (u 17), .ref (u 18)])), ((u 14), .inl (cI, 20, .inl (fun _ => 0))), (qo, .inl (cJ, 1, .inr (.inl (fun _ => 0))))]) (w1 := [(y, .inr (16, g9))]) hP hD [2, 3] [0, 1, 4] rfl rfl (by decide) (by decide) hk1 hFc hP1 hD1
  generalize H1 = H at hP hS ⊢
  have hP : va_P (dC, dI) vwCl [(x, .inr (14, [.ref (u 0), .ref (u 1), .ref (u 2), .ref (u 3), .ref (u 4), .ref (u 5), .ref (u 6), .ref (u 7), .ref (u 8), .ref (u 9), .ref (u 10), .ref (u 11), .ref (u 12), .ref (u 13), .ref (u 14), .ref (u 15), .ref (u 16), .ref (u 17), .ref (u 18)])), ((u 14), .inl (cI, 20, .inl (fun _ => 0))), (qo, .inl (cJ, 1, .inr (.inl (fun _ => 0)))), (y, .inr (16, g9))] H := hP
  have hD : va_D (fun q : Nat => s.heap.size ≤ q) [(x, .inr (14, [.ref (u 0), .ref (u 1), .ref (u 2), .ref (u 3), .ref (u 4), .ref (u 5), .ref (u 6), .ref (u 7), .ref (u 8), .ref (u 9), .ref (u 10), .ref (u 11), .ref (u 12), .ref (u 13), .ref (u 14), .ref (u 15), .ref (u 16), .ref (u 17), .ref (u 18)])), ((u 14), .inl (cI, 20, .inl (fun _ => 0))), (qo, .inl (cJ, 1, .inr (.inl (fun _ => 0)))), (y, .inr (16, g9))] := hD
  obtain ⟨hr9, hg0⟩ := hw
  subst hr9
  refine lv_istore (lv' := [(6, .int 0), (5, .int 1), (0, .ref b), (1, .ref x), (2, .ref y), (3, .ref qo), (4, .int 0)]) hx hb dL_law_2342 hl (by decide) rfl (fun ls hl => ?_)
  refine lv_aload_n hx hb dL_law_2344 rfl (lv_at hl 4 rfl) ?_
  have hPc := hP.sub (ws' := [(y, .inr (16, g9))]) [3] rfl
  refine va_calli (va_runV (As := []) (rest := []) ⟨hx, hb, hml, hown, hts⟩ (kf_X13_thrownN l dC dI cI cB cJ cZ y g9 1 hg0) (cwV 0 hts gw_X13_thrown rfl rfl rfl (by decide +kernel) ⟨(Nat.le_of_ble_eq_true rfl), (Nat.le_of_ble_eq_true rfl)⟩) ⟨fun a U g mk q => by obtain ⟨q0, qP, qK⟩ := q; exact ⟨q0, qP, va_K.moved (u := U) (U := U.calling g mk a) (Vm.Alike.refl U.vm) qK⟩, va_recv hK hPc (ci := 16) (q0 := 0) rfl rfl, fun U hU hW => ⟨rfl, by rw [hU]; exact hPc, va_K.moved hW.alike hK⟩⟩ rfl rfl hl.1 rfl (lv_room (Nat.le_of_ble_eq_true rfl)) dL_law_2345 ⟨(Nat.le_of_ble_eq_true rfl), (Nat.le_of_ble_eq_true rfl)⟩) hS (fun q _ h => h.elim) (fun q h => h.elim) (fun r8 un t H1 locs ht hvm hw8 hB hz1 hk1 hS => ?_)
  obtain rfl : r8 = 1 := hw8
  have hP := hP.kept (fun k9 x9 h9 => hk1 x9.1 ((hP k9 x9 h9).lt) id)
  generalize H1 = H at hP hS ⊢
  refine lv_iload hx hb dL_law_2348 (lv_at hl 1 rfl) ?_
  refine lv_icmp_eq (tgt := 2355) hx hb dL_law_2350 (by decide) (fun _ => ?_) (fun c9 => absurd (rfl) c9)
  refine lv_iload hx hb dL_law_2355 (lv_at hl 1 rfl) ?_
  refine lv_if_ne (tgt := 2372) hx hb dL_law_2357 (by decide) (fun _ => ?_) (fun c9 => absurd c9 (by decide))
  refine lv_goto (tgt := 2616) hx hb dL_law_2372 (by decide) ?_
  exact lc_fin C0 hS (lv_sub hl [2, 6] rfl) (Nat.le_of_ble_eq_true rfl) (Nat.le_of_ble_eq_true rfl)
theorem dL_law_2375 : decode cL_law 2375 = .ok (.aload_n 1, 1) := by decide +kernel
theorem dL_law_2376 : decode cL_law 2376 = .ok (.aload_n 0, 1) := by decide +kernel
theorem dL_law_2377 : decode cL_law 2377 = .ok (.iload 4, 2) := by decide +kernel
theorem dL_law_2379 : decode cL_law 2379 = .ok (.iconst 1, 1) := by decide +kernel
theorem dL_law_2380 : decode cL_law 2380 = .ok (.iadd, 1) := by decide +kernel
theorem dL_law_2381 : decode cL_law 2381 = .ok (.iaload, 1) := by decide +kernel
theorem dL_law_2382 : decode cL_law 2382 = .ok (.aload_n 0, 1) := by decide +kernel
theorem dL_law_2383 : decode cL_law 2383 = .ok (.iload 4, 2) := by decide +kernel
theorem dL_law_2385 : decode cL_law 2385 = .ok (.iconst 2, 1) := by decide +kernel
theorem dL_law_2386 : decode cL_law 2386 = .ok (.iadd, 1) := by decide +kernel
theorem dL_law_2387 : decode cL_law 2387 = .ok (.iaload, 1) := by decide +kernel
theorem dL_law_2388 : decode cL_law 2388 = .ok (.invokevirtual 254, 3) := by decide +kernel
theorem dL_law_2391 : decode cL_law 2391 = .ok (.aload_n 2, 1) := by decide +kernel
theorem dL_law_2392 : decode cL_law 2392 = .ok (.aload_n 0, 1) := by decide +kernel
theorem dL_law_2393 : decode cL_law 2393 = .ok (.iload 4, 2) := by decide +kernel
theorem dL_law_2395 : decode cL_law 2395 = .ok (.iconst 1, 1) := by decide +kernel
theorem dL_law_2396 : decode cL_law 2396 = .ok (.iadd, 1) := by decide +kernel
theorem dL_law_2397 : decode cL_law 2397 = .ok (.iaload, 1) := by decide +kernel
theorem dL_law_2398 : decode cL_law 2398 = .ok (.aload_n 0, 1) := by decide +kernel
theorem dL_law_2399 : decode cL_law 2399 = .ok (.iload 4, 2) := by decide +kernel
theorem dL_law_2401 : decode cL_law 2401 = .ok (.iconst 2, 1) := by decide +kernel
theorem dL_law_2402 : decode cL_law 2402 = .ok (.iadd, 1) := by decide +kernel
theorem dL_law_2403 : decode cL_law 2403 = .ok (.iaload, 1) := by decide +kernel
theorem dL_law_2404 : decode cL_law 2404 = .ok (.invokevirtual 257, 3) := by decide +kernel
theorem dL_law_2407 : decode cL_law 2407 = .ok (.if_icmp .eq 209, 3) := by decide +kernel
theorem dL_law_2410 : decode cL_law 2410 = .ok (.iconst 0, 1) := by decide +kernel
theorem dL_law_2411 : decode cL_law 2411 = .ok (.ireturn, 1) := by decide +kernel
set_option maxHeartbeats 4000000 in
set_option maxRecDepth 100000 in
theorem lc_equal {p : Program} {l : Launch} {e : Env} {s : State} {m : MethodId} {below : List Frame} {meth : Method} {c : Code} {b : Nat} {xs : Nat → Int32} {dC : Nat → ClassId} {dI : Nat → Nat → Nat} {cI cB cJ cZ : ClassId} {sa : Nat → Nat} (C0 : lw_At p s m meth c b 6 xs) (hG : ow_LG l s dC dI cI cB cJ cZ sa) {x y qo : Nat} {u : Nat → Nat} {v : List Value × (Nat → Nat)} (hv : kn_X13_init v) {H : Heap} {locs : List Loc} {ls : Array Slot} (hP : va_P (dC, dI) vwCl (wd_X11_init cI cB cJ x u ++ (wd_X13_init cI cB y v ++ [(qo, .inl (cJ, 1, .inr (.inl (fun _ => 0))))])) H) (hD : va_D (fun q : Nat => s.heap.size ≤ q) (wd_X11_init cI cB cJ x u ++ (wd_X13_init cI cB y v ++ [(qo, .inl (cJ, 1, .inr (.inl (fun _ => 0))))]))) (hS : va_S (fun q : Nat => s.heap.size ≤ q) s.heap H locs) (hl : lv_has ls 8 [(0, .ref b), (1, .ref x), (2, .ref y), (3, .ref qo), (4, .int 0)]) : W p l e room_1 s m #[Value.ref b] below meth c H locs 694 1334208 (lw_Z below #[Value.ref b] s) (F0 m 2375 ls []) := by
  obtain ⟨hx, hb, hr, hml, hown, hts, hX, hbl, hlocks, hgv⟩ := id C0
  have hown : s.vm.findClass RL = some m.cls := hown
  have hA : ∀ q : Nat, s.heap.size ≤ q → (fun q : Nat => s.heap.size ≤ q) q := fun _ h => h
  have hbA : ¬ (fun q : Nat => s.heap.size ≤ q) b := Nat.not_le.mpr hbl
  have hK := hG.2.1
  have hP := hP.sub (ws' := [(x, .inr (14, [.ref (u 0), .ref (u 1), .ref (u 2), .ref (u 3), .ref (u 4), .ref (u 5), .ref (u 6), .ref (u 7), .ref (u 8), .ref (u 9), .ref (u 10), .ref (u 11), .ref (u 12), .ref (u 13), .ref (u 14), .ref (u 15), .ref (u 16), .ref (u 17), .ref (u 18)])), ((u 14), .inl (cI, 20, .inl (fun _ => 0))), (y, .inr (16, v.1)), ((v.2 9), .inl (cI, 20, .inl (fun _ => 0))), (qo, .inl (cJ, 1, .inr (.inl (fun _ => 0))))]) [0, 59, 60, 70, 71] rfl
  have hD := hD.sub (ws' := [(x, .inr (14, [.ref (u 0), .ref (u 1), .ref (u 2), .ref (u 3), .ref (u 4), .ref (u 5), .ref (u 6), .ref (u 7), .ref (u 8), .ref (u 9), .ref (u 10), .ref (u 11), .ref (u 12), .ref (u 13), .ref (u 14), .ref (u 15), .ref (u 16), .ref (u 17), .ref (u 18)])), ((u 14), .inl (cI, 20, .inl (fun _ => 0))), (y, .inr (16, v.1)), ((v.2 9), .inl (cI, 20, .inl (fun _ => 0))), (qo, .inl (cJ, 1, .inr (.inl (fun _ => 0))))]) [0, 59, 60, 70, 71] (by decide) rfl
  refine lv_aload_n hx hb dL_law_2375 rfl (lv_at hl 1 rfl) ?_
  refine lv_aload_n hx hb dL_law_2376 rfl (lv_at hl 0 rfl) ?_
  refine lv_iload hx hb dL_law_2377 (lv_at hl 4 rfl) ?_
  refine lv_iconst (v := 1) hx hb dL_law_2379 (by decide) ?_
  refine lv_iadd hx hb dL_law_2380 ?_
  refine ow_topi (y := 1) (by decide) ?_
  refine va_sld hx hb hX hbl hbA hS (vp_in_nI (n := 1) (N := 6) (by decide) (by decide)) dL_law_2381 ?_
  refine ow_topi (y := xs 1) (congrArg xs (by decide)) ?_
  refine lv_aload_n hx hb dL_law_2382 rfl (lv_at hl 0 rfl) ?_
  refine lv_iload hx hb dL_law_2383 (lv_at hl 4 rfl) ?_
  refine lv_iconst (v := 2) hx hb dL_law_2385 (by decide) ?_
  refine lv_iadd hx hb dL_law_2386 ?_
  refine ow_topi (y := 2) (by decide) ?_
  refine va_sld hx hb hX hbl hbA hS (vp_in_nI (n := 2) (N := 6) (by decide) (by decide)) dL_law_2387 ?_
  refine ow_topi (y := xs 2) (congrArg xs (by decide)) ?_
  have hPc := hP.sub (ws' := [(x, .inr (14, [.ref (u 0), .ref (u 1), .ref (u 2), .ref (u 3), .ref (u 4), .ref (u 5), .ref (u 6), .ref (u 7), .ref (u 8), .ref (u 9), .ref (u 10), .ref (u 11), .ref (u 12), .ref (u 13), .ref (u 14), .ref (u 15), .ref (u 16), .ref (u 17), .ref (u 18)])), ((u 14), .inl (cI, 20, .inl (fun _ => 0)))]) [0, 1] rfl
  refine va_calli (va_runV (As := [.int (xs 1), .int (xs 2)]) (rest := []) ⟨hx, hb, hml, hown, hts⟩ (kf_X11_equal l dC dI cI cB cJ cZ x u (xs 1) (xs 2)) (cwV 2 hts gw_X11_equal rfl rfl rfl (by decide +kernel) ⟨(Nat.le_of_ble_eq_true rfl), (Nat.le_of_ble_eq_true rfl)⟩) ⟨fun a U g mk q => by obtain ⟨q0, qP, qK⟩ := q; exact ⟨q0, qP, va_K.moved (u := U) (U := U.calling g mk a) (Vm.Alike.refl U.vm) qK⟩, va_recv hK hPc (ci := 14) (q0 := 0) rfl rfl, fun U hU hW => ⟨rfl, by rw [hU]; exact hPc, va_K.moved hW.alike hK⟩⟩ rfl rfl hl.1 rfl (lv_room (Nat.le_of_ble_eq_true rfl)) dL_law_2388 ⟨(Nat.le_of_ble_eq_true rfl), (Nat.le_of_ble_eq_true rfl)⟩) hS (fun q _ h => h.elim) (fun q h => h.elim) (fun r7 un t H1 locs ht hvm hw hB hz1 hk1 hS => ?_)
  obtain rfl : r7 = 0 := hw
  have hP := hP.kept (fun k9 x9 h9 => hk1 x9.1 ((hP k9 x9 h9).lt) id)
  generalize H1 = H at hP hS ⊢
  refine lv_aload_n hx hb dL_law_2391 rfl (lv_at hl 2 rfl) ?_
  refine lv_aload_n hx hb dL_law_2392 rfl (lv_at hl 0 rfl) ?_
  refine lv_iload hx hb dL_law_2393 (lv_at hl 4 rfl) ?_
  refine lv_iconst (v := 1) hx hb dL_law_2395 (by decide) ?_
  refine lv_iadd hx hb dL_law_2396 ?_
  refine ow_topi (y := 1) (by decide) ?_
  refine va_sld hx hb hX hbl hbA hS (vp_in_nI (n := 1) (N := 6) (by decide) (by decide)) dL_law_2397 ?_
  refine ow_topi (y := xs 1) (congrArg xs (by decide)) ?_
  refine lv_aload_n hx hb dL_law_2398 rfl (lv_at hl 0 rfl) ?_
  refine lv_iload hx hb dL_law_2399 (lv_at hl 4 rfl) ?_
  refine lv_iconst (v := 2) hx hb dL_law_2401 (by decide) ?_
  refine lv_iadd hx hb dL_law_2402 ?_
  refine ow_topi (y := 2) (by decide) ?_
  refine va_sld hx hb hX hbl hbA hS (vp_in_nI (n := 2) (N := 6) (by decide) (by decide)) dL_law_2403 ?_
  refine ow_topi (y := xs 2) (congrArg xs (by decide)) ?_
  have hPc := hP.sub (ws' := [(y, .inr (16, v.1)), ((v.2 9), .inl (cI, 20, .inl (fun _ => 0)))]) [2, 3] rfl
  have hDc := hD.sub (ws' := [(y, .inr (16, v.1)), ((v.2 9), .inl (cI, 20, .inl (fun _ => 0)))]) [2, 3] (by decide) rfl
  have hFc := va_free (wc := [(y, .inr (16, v.1)), ((v.2 9), .inl (cI, 20, .inl (fun _ => 0)))]) hD hS hA [2, 3] rfl
  refine va_calli (va_runV (As := [.int (xs 1), .int (xs 2)]) (rest := [.int 0]) ⟨hx, hb, hml, hown, hts⟩ (kf_X13_equal l dC dI cI cB cJ cZ y (v.2 9) H.size v.1 hv.1 (hv.2.at 11 rfl) (xs 1) (xs 2)) (cwV 2 hts gw_X13_equal rfl rfl rfl (by decide +kernel) ⟨(Nat.le_of_ble_eq_true rfl), (Nat.le_of_ble_eq_true rfl)⟩) ⟨fun a U g mk q => by obtain ⟨q0, q1, qP, qK, qD⟩ := q; exact ⟨q0, q1, qP, va_K.moved (u := U) (U := U.calling g mk a) (Vm.Alike.refl U.vm) qK, qD⟩, va_recv hK hPc (ci := 16) (q0 := 0) rfl rfl, fun U hU hW => ⟨rfl, by rw [hU], by rw [hU]; exact hPc, va_K.moved hW.alike hK, hDc.weaken (fun _ _ _ _ => trivial)⟩⟩ rfl rfl hl.1 rfl (lv_room (Nat.le_of_ble_eq_true rfl)) dL_law_2404 ⟨(Nat.le_of_ble_eq_true rfl), (Nat.le_of_ble_eq_true rfl)⟩) hS (fun q _ h => hFc q h) hFc (fun r9 g9 t H1 locs ht hvm hw hB hz1 hk1 hS => ?_)
  obtain ⟨hP1, hD1⟩ := hB
  rw [ht] at hP1
  obtain ⟨hP, hD⟩ := va_join (wr := [(x, .inr (14, [.ref (u 0), .ref (u 1), .ref (u 2), .ref (u 3), .ref (u 4), .ref (u 5), .ref (u 6), .ref (u 7), .ref (u 8), .ref (u 9), .ref (u 10), .ref (u 11), .ref (u 12), .ref (u 13), .ref (u 14), .ref (u 15), .ref (u 16), .ref (u 17), .ref (u 18)])), ((u 14), .inl (cI, 20, .inl (fun _ => 0))), (qo, .inl (cJ, 1, .inr (.inl (fun _ => 0))))]) (w1 := [(y, .inr (16, g9))]) hP hD [2, 3] [0, 1, 4] rfl rfl (by decide) (by decide) hk1 hFc hP1 hD1
  generalize H1 = H at hP hS ⊢
  have hP : va_P (dC, dI) vwCl [(x, .inr (14, [.ref (u 0), .ref (u 1), .ref (u 2), .ref (u 3), .ref (u 4), .ref (u 5), .ref (u 6), .ref (u 7), .ref (u 8), .ref (u 9), .ref (u 10), .ref (u 11), .ref (u 12), .ref (u 13), .ref (u 14), .ref (u 15), .ref (u 16), .ref (u 17), .ref (u 18)])), ((u 14), .inl (cI, 20, .inl (fun _ => 0))), (qo, .inl (cJ, 1, .inr (.inl (fun _ => 0)))), (y, .inr (16, g9))] H := hP
  have hD : va_D (fun q : Nat => s.heap.size ≤ q) [(x, .inr (14, [.ref (u 0), .ref (u 1), .ref (u 2), .ref (u 3), .ref (u 4), .ref (u 5), .ref (u 6), .ref (u 7), .ref (u 8), .ref (u 9), .ref (u 10), .ref (u 11), .ref (u 12), .ref (u 13), .ref (u 14), .ref (u 15), .ref (u 16), .ref (u 17), .ref (u 18)])), ((u 14), .inl (cI, 20, .inl (fun _ => 0))), (qo, .inl (cJ, 1, .inr (.inl (fun _ => 0)))), (y, .inr (16, g9))] := hD
  obtain ⟨hr9, hg0⟩ := hw
  subst hr9
  refine lv_icmp_eq (tgt := 2616) hx hb dL_law_2407 (by decide) (fun _ => ?_) (fun c9 => absurd (rfl) c9)
  exact lc_fin C0 hS (lv_sub hl [0, 4] rfl) (Nat.le_of_ble_eq_true rfl) (Nat.le_of_ble_eq_true rfl)
theorem dL_law_2412 : decode cL_law 2412 = .ok (.aload_n 1, 1) := by decide +kernel
theorem dL_law_2413 : decode cL_law 2413 = .ok (.aload_n 0, 1) := by decide +kernel
theorem dL_law_2414 : decode cL_law 2414 = .ok (.iload 4, 2) := by decide +kernel
theorem dL_law_2416 : decode cL_law 2416 = .ok (.iconst 1, 1) := by decide +kernel
theorem dL_law_2417 : decode cL_law 2417 = .ok (.iadd, 1) := by decide +kernel
theorem dL_law_2418 : decode cL_law 2418 = .ok (.iaload, 1) := by decide +kernel
theorem dL_law_2419 : decode cL_law 2419 = .ok (.aload_n 3, 1) := by decide +kernel
theorem dL_law_2420 : decode cL_law 2420 = .ok (.invokestatic 258, 3) := by decide +kernel
theorem dL_law_2423 : decode cL_law 2423 = .ok (.istore 5, 2) := by decide +kernel
theorem dL_law_2425 : decode cL_law 2425 = .ok (.aload_n 2, 1) := by decide +kernel
theorem dL_law_2426 : decode cL_law 2426 = .ok (.aload_n 0, 1) := by decide +kernel
theorem dL_law_2427 : decode cL_law 2427 = .ok (.iload 4, 2) := by decide +kernel
theorem dL_law_2429 : decode cL_law 2429 = .ok (.iconst 1, 1) := by decide +kernel
theorem dL_law_2430 : decode cL_law 2430 = .ok (.iadd, 1) := by decide +kernel
theorem dL_law_2431 : decode cL_law 2431 = .ok (.iaload, 1) := by decide +kernel
theorem dL_law_2432 : decode cL_law 2432 = .ok (.invokevirtual 260, 3) := by decide +kernel
theorem dL_law_2435 : decode cL_law 2435 = .ok (.istore 6, 2) := by decide +kernel
theorem dL_law_2437 : decode cL_law 2437 = .ok (.aload_n 2, 1) := by decide +kernel
theorem dL_law_2438 : decode cL_law 2438 = .ok (.invokevirtual 137, 3) := by decide +kernel
theorem dL_law_2441 : decode cL_law 2441 = .ok (.iload 5, 2) := by decide +kernel
theorem dL_law_2443 : decode cL_law 2443 = .ok (.if_icmp .eq 5, 3) := by decide +kernel
theorem dL_law_2446 : decode cL_law 2446 = .ok (.iconst 0, 1) := by decide +kernel
theorem dL_law_2447 : decode cL_law 2447 = .ok (.ireturn, 1) := by decide +kernel
theorem dL_law_2448 : decode cL_law 2448 = .ok (.iload 5, 2) := by decide +kernel
theorem dL_law_2450 : decode cL_law 2450 = .ok (.ifCond .ne 15, 3) := by decide +kernel
theorem dL_law_2453 : decode cL_law 2453 = .ok (.aload_n 3, 1) := by decide +kernel
theorem dL_law_2454 : decode cL_law 2454 = .ok (.iconst 0, 1) := by decide +kernel
theorem dL_law_2455 : decode cL_law 2455 = .ok (.laload, 1) := by decide +kernel
theorem dL_law_2456 : decode cL_law 2456 = .ok (.iload 6, 2) := by decide +kernel
theorem dL_law_2458 : decode cL_law 2458 = .ok (.i2l, 1) := by decide +kernel
theorem dL_law_2459 : decode cL_law 2459 = .ok (.lcmp, 1) := by decide +kernel
theorem dL_law_2460 : decode cL_law 2460 = .ok (.ifCond .eq 5, 3) := by decide +kernel
theorem dL_law_2463 : decode cL_law 2463 = .ok (.iconst 0, 1) := by decide +kernel
theorem dL_law_2464 : decode cL_law 2464 = .ok (.ireturn, 1) := by decide +kernel
theorem dL_law_2465 : decode cL_law 2465 = .ok (.goto 151, 3) := by decide +kernel
set_option maxHeartbeats 4000000 in
set_option maxRecDepth 100000 in
theorem lc_summit {p : Program} {l : Launch} {e : Env} {s : State} {m : MethodId} {below : List Frame} {meth : Method} {c : Code} {b : Nat} {xs : Nat → Int32} {dC : Nat → ClassId} {dI : Nat → Nat → Nat} {cI cB cJ cZ : ClassId} {sa : Nat → Nat} (C0 : lw_At p s m meth c b 6 xs) (hG : ow_LG l s dC dI cI cB cJ cZ sa) {x y qo : Nat} {u : Nat → Nat} {v : List Value × (Nat → Nat)} (hv : kn_X13_init v) {H : Heap} {locs : List Loc} {ls : Array Slot} (hP : va_P (dC, dI) vwCl (wd_X11_init cI cB cJ x u ++ (wd_X13_init cI cB y v ++ [(qo, .inl (cJ, 1, .inr (.inl (fun _ => 0))))])) H) (hD : va_D (fun q : Nat => s.heap.size ≤ q) (wd_X11_init cI cB cJ x u ++ (wd_X13_init cI cB y v ++ [(qo, .inl (cJ, 1, .inr (.inl (fun _ => 0))))]))) (hS : va_S (fun q : Nat => s.heap.size ≤ q) s.heap H locs) (hl : lv_has ls 8 [(0, .ref b), (1, .ref x), (2, .ref y), (3, .ref qo), (4, .int 0)]) : W p l e room_1 s m #[Value.ref b] below meth c H locs 694 1334208 (lw_Z below #[Value.ref b] s) (F0 m 2412 ls []) := by
  obtain ⟨hx, hb, hr, hml, hown, hts, hX, hbl, hlocks, hgv⟩ := id C0
  have hown : s.vm.findClass RL = some m.cls := hown
  have hA : ∀ q : Nat, s.heap.size ≤ q → (fun q : Nat => s.heap.size ≤ q) q := fun _ h => h
  have hbA : ¬ (fun q : Nat => s.heap.size ≤ q) b := Nat.not_le.mpr hbl
  have hK := hG.2.1
  have hP := hP.sub (ws' := [(x, .inr (14, [.ref (u 0), .ref (u 1), .ref (u 2), .ref (u 3), .ref (u 4), .ref (u 5), .ref (u 6), .ref (u 7), .ref (u 8), .ref (u 9), .ref (u 10), .ref (u 11), .ref (u 12), .ref (u 13), .ref (u 14), .ref (u 15), .ref (u 16), .ref (u 17), .ref (u 18)])), ((u 14), .inl (cI, 20, .inl (fun _ => 0))), (y, .inr (16, v.1)), ((v.2 9), .inl (cI, 20, .inl (fun _ => 0))), (qo, .inl (cJ, 1, .inr (.inl (fun _ => 0))))]) [0, 59, 60, 70, 71] rfl
  have hD := hD.sub (ws' := [(x, .inr (14, [.ref (u 0), .ref (u 1), .ref (u 2), .ref (u 3), .ref (u 4), .ref (u 5), .ref (u 6), .ref (u 7), .ref (u 8), .ref (u 9), .ref (u 10), .ref (u 11), .ref (u 12), .ref (u 13), .ref (u 14), .ref (u 15), .ref (u 16), .ref (u 17), .ref (u 18)])), ((u 14), .inl (cI, 20, .inl (fun _ => 0))), (y, .inr (16, v.1)), ((v.2 9), .inl (cI, 20, .inl (fun _ => 0))), (qo, .inl (cJ, 1, .inr (.inl (fun _ => 0))))]) [0, 59, 60, 70, 71] (by decide) rfl
  refine lv_aload_n hx hb dL_law_2412 rfl (lv_at hl 1 rfl) ?_
  refine lv_aload_n hx hb dL_law_2413 rfl (lv_at hl 0 rfl) ?_
  refine lv_iload hx hb dL_law_2414 (lv_at hl 4 rfl) ?_
  refine lv_iconst (v := 1) hx hb dL_law_2416 (by decide) ?_
  refine lv_iadd hx hb dL_law_2417 ?_
  refine ow_topi (y := 1) (by decide) ?_
  refine va_sld hx hb hX hbl hbA hS (vp_in_nI (n := 1) (N := 6) (by decide) (by decide)) dL_law_2418 ?_
  refine ow_topi (y := xs 1) (congrArg xs (by decide)) ?_
  refine lv_aload_n hx hb dL_law_2419 rfl (lv_at hl 3 rfl) ?_
  have hPc := hP.sub (ws' := [(x, .inr (14, [.ref (u 0), .ref (u 1), .ref (u 2), .ref (u 3), .ref (u 4), .ref (u 5), .ref (u 6), .ref (u 7), .ref (u 8), .ref (u 9), .ref (u 10), .ref (u 11), .ref (u 12), .ref (u 13), .ref (u 14), .ref (u 15), .ref (u 16), .ref (u 17), .ref (u 18)])), ((u 14), .inl (cI, 20, .inl (fun _ => 0)))]) [0, 1] rfl
  refine vx_calli (vx_runSX (As := [.ref x, .int (xs 1), .ref qo]) (rest := []) ⟨hx, hb, hml, hown, hts⟩ (kf_L_summit l dC dI cI cB cJ cZ hG.1 x (sa 1) qo u (xs 1)) (vx_cwSW 3 hts gw_L_summit rfl rfl rfl (by decide +kernel) ⟨(Nat.le_of_ble_eq_true rfl), (Nat.le_of_ble_eq_true rfl)⟩) ⟨fun a U g mk q => by obtain ⟨q0, qP, qK, qT⟩ := q; exact ⟨q0, qP, va_K.moved (u := U) (U := U.calling g mk a) (Vm.Alike.refl U.vm) qK, qT.same rfl rfl⟩, fun U hU hW => ⟨rfl, by rw [hU]; exact hPc, va_K.moved hW.alike hK, (hG.2.2.2.2.1).to hS hW hU (fun q h => h.elim)⟩⟩ rfl rfl hl.1 rfl (lv_room (Nat.le_of_ble_eq_true rfl)) dL_law_2420 ⟨(Nat.le_of_ble_eq_true rfl), (Nat.le_of_ble_eq_true rfl)⟩) hS (fun q _ h => h.elim) (fun q h => h.elim) (fun q _ h => h.elim) (fun E ce q9 u9 t H1 locs1 ht hvm hp hB hz hk hS hce hcv hcl => hp.elim) (fun r7 g7 t H1 locs ht hvm hw hB hz1 hk1 hS => ?_)
  obtain rfl : r7 = 1 := hw
  have hP := hP.kept (fun k9 x9 h9 => hk1 x9.1 ((hP k9 x9 h9).lt) id)
  generalize H1 = H at hP hS ⊢
  refine W.widen (k := 695) (n := 1334214) (Nat.le_of_ble_eq_true rfl) (Nat.le_of_ble_eq_true rfl) ?_
  refine lv_istore (lv' := [(5, .int 1), (0, .ref b), (1, .ref x), (2, .ref y), (3, .ref qo), (4, .int 0)]) hx hb dL_law_2423 hl (by decide) rfl (fun ls hl => ?_)
  refine lv_aload_n hx hb dL_law_2425 rfl (lv_at hl 3 rfl) ?_
  refine lv_aload_n hx hb dL_law_2426 rfl (lv_at hl 1 rfl) ?_
  refine lv_iload hx hb dL_law_2427 (lv_at hl 5 rfl) ?_
  refine lv_iconst (v := 1) hx hb dL_law_2429 (by decide) ?_
  refine lv_iadd hx hb dL_law_2430 ?_
  refine ow_topi (y := 1) (by decide) ?_
  refine va_sld hx hb hX hbl hbA hS (vp_in_nI (n := 1) (N := 6) (by decide) (by decide)) dL_law_2431 ?_
  refine ow_topi (y := xs 1) (congrArg xs (by decide)) ?_
  have hPc := hP.sub (ws' := [(y, .inr (16, v.1)), ((v.2 9), .inl (cI, 20, .inl (fun _ => 0)))]) [2, 3] rfl
  have hDc := hD.sub (ws' := [(y, .inr (16, v.1)), ((v.2 9), .inl (cI, 20, .inl (fun _ => 0)))]) [2, 3] (by decide) rfl
  have hFc := va_free (wc := [(y, .inr (16, v.1)), ((v.2 9), .inl (cI, 20, .inl (fun _ => 0)))]) hD hS hA [2, 3] rfl
  refine va_calli (va_runV (As := [.int (xs 1)]) (rest := []) ⟨hx, hb, hml, hown, hts⟩ (kf_X13_summit l dC dI cI cB cJ cZ y (v.2 9) H.size v.1 hv.1 (hv.2.at 11 rfl) (xs 1)) (cwV 1 hts gw_X13_summit rfl rfl rfl (by decide +kernel) ⟨(Nat.le_of_ble_eq_true rfl), (Nat.le_of_ble_eq_true rfl)⟩) ⟨fun a U g mk q => by obtain ⟨q0, q1, qP, qK, qD⟩ := q; exact ⟨q0, q1, qP, va_K.moved (u := U) (U := U.calling g mk a) (Vm.Alike.refl U.vm) qK, qD⟩, va_recv hK hPc (ci := 16) (q0 := 0) rfl rfl, fun U hU hW => ⟨rfl, by rw [hU], by rw [hU]; exact hPc, va_K.moved hW.alike hK, hDc.weaken (fun _ _ _ _ => trivial)⟩⟩ rfl rfl hl.1 rfl (lv_room (Nat.le_of_ble_eq_true rfl)) dL_law_2432 ⟨(Nat.le_of_ble_eq_true rfl), (Nat.le_of_ble_eq_true rfl)⟩) hS (fun q _ h => hFc q h) hFc (fun r9 g9 t H1 locs ht hvm hw hB hz1 hk1 hS => ?_)
  obtain ⟨hP1, hD1⟩ := hB
  rw [ht] at hP1
  obtain ⟨hP, hD⟩ := va_join (wr := [(x, .inr (14, [.ref (u 0), .ref (u 1), .ref (u 2), .ref (u 3), .ref (u 4), .ref (u 5), .ref (u 6), .ref (u 7), .ref (u 8), .ref (u 9), .ref (u 10), .ref (u 11), .ref (u 12), .ref (u 13), .ref (u 14), .ref (u 15), .ref (u 16), .ref (u 17), .ref (u 18)])), ((u 14), .inl (cI, 20, .inl (fun _ => 0))), (qo, .inl (cJ, 1, .inr (.inl (fun _ => 0))))]) (w1 := [(y, .inr (16, g9))]) hP hD [2, 3] [0, 1, 4] rfl rfl (by decide) (by decide) hk1 hFc hP1 hD1
  generalize H1 = H at hP hS ⊢
  have hP : va_P (dC, dI) vwCl [(x, .inr (14, [.ref (u 0), .ref (u 1), .ref (u 2), .ref (u 3), .ref (u 4), .ref (u 5), .ref (u 6), .ref (u 7), .ref (u 8), .ref (u 9), .ref (u 10), .ref (u 11), .ref (u 12), .ref (u 13), .ref (u 14), .ref (u 15), .ref (u 16), .ref (u 17), .ref (u 18)])), ((u 14), .inl (cI, 20, .inl (fun _ => 0))), (qo, .inl (cJ, 1, .inr (.inl (fun _ => 0)))), (y, .inr (16, g9))] H := hP
  have hD : va_D (fun q : Nat => s.heap.size ≤ q) [(x, .inr (14, [.ref (u 0), .ref (u 1), .ref (u 2), .ref (u 3), .ref (u 4), .ref (u 5), .ref (u 6), .ref (u 7), .ref (u 8), .ref (u 9), .ref (u 10), .ref (u 11), .ref (u 12), .ref (u 13), .ref (u 14), .ref (u 15), .ref (u 16), .ref (u 17), .ref (u 18)])), ((u 14), .inl (cI, 20, .inl (fun _ => 0))), (qo, .inl (cJ, 1, .inr (.inl (fun _ => 0)))), (y, .inr (16, g9))] := hD
  obtain ⟨hr9, hg0⟩ := hw
  subst hr9
  refine lv_istore (lv' := [(6, .int 0), (5, .int 1), (0, .ref b), (1, .ref x), (2, .ref y), (3, .ref qo), (4, .int 0)]) hx hb dL_law_2435 hl (by decide) rfl (fun ls hl => ?_)
  refine lv_aload_n hx hb dL_law_2437 rfl (lv_at hl 4 rfl) ?_
  have hPc := hP.sub (ws' := [(y, .inr (16, g9))]) [3] rfl
  refine va_calli (va_runV (As := []) (rest := []) ⟨hx, hb, hml, hown, hts⟩ (kf_X13_thrownN l dC dI cI cB cJ cZ y g9 1 hg0) (cwV 0 hts gw_X13_thrown rfl rfl rfl (by decide +kernel) ⟨(Nat.le_of_ble_eq_true rfl), (Nat.le_of_ble_eq_true rfl)⟩) ⟨fun a U g mk q => by obtain ⟨q0, qP, qK⟩ := q; exact ⟨q0, qP, va_K.moved (u := U) (U := U.calling g mk a) (Vm.Alike.refl U.vm) qK⟩, va_recv hK hPc (ci := 16) (q0 := 0) rfl rfl, fun U hU hW => ⟨rfl, by rw [hU]; exact hPc, va_K.moved hW.alike hK⟩⟩ rfl rfl hl.1 rfl (lv_room (Nat.le_of_ble_eq_true rfl)) dL_law_2438 ⟨(Nat.le_of_ble_eq_true rfl), (Nat.le_of_ble_eq_true rfl)⟩) hS (fun q _ h => h.elim) (fun q h => h.elim) (fun r8 un t H1 locs ht hvm hw8 hB hz1 hk1 hS => ?_)
  obtain rfl : r8 = 1 := hw8
  have hP := hP.kept (fun k9 x9 h9 => hk1 x9.1 ((hP k9 x9 h9).lt) id)
  generalize H1 = H at hP hS ⊢
  refine lv_iload hx hb dL_law_2441 (lv_at hl 1 rfl) ?_
  refine lv_icmp_eq (tgt := 2448) hx hb dL_law_2443 (by decide) (fun _ => ?_) (fun c9 => absurd (rfl) c9)
  refine lv_iload hx hb dL_law_2448 (lv_at hl 1 rfl) ?_
  refine lv_if_ne (tgt := 2465) hx hb dL_law_2450 (by decide) (fun _ => ?_) (fun c9 => absurd c9 (by decide))
  refine lv_goto (tgt := 2616) hx hb dL_law_2465 (by decide) ?_
  exact lc_fin C0 hS (lv_sub hl [2, 6] rfl) (Nat.le_of_ble_eq_true rfl) (Nat.le_of_ble_eq_true rfl)
theorem dL_law_2468 : decode cL_law 2468 = .ok (.aload_n 1, 1) := by decide +kernel
theorem dL_law_2469 : decode cL_law 2469 = .ok (.aload_n 0, 1) := by decide +kernel
theorem dL_law_2470 : decode cL_law 2470 = .ok (.iload 4, 2) := by decide +kernel
theorem dL_law_2472 : decode cL_law 2472 = .ok (.iconst 1, 1) := by decide +kernel
theorem dL_law_2473 : decode cL_law 2473 = .ok (.iadd, 1) := by decide +kernel
theorem dL_law_2474 : decode cL_law 2474 = .ok (.iaload, 1) := by decide +kernel
theorem dL_law_2475 : decode cL_law 2475 = .ok (.aload_n 0, 1) := by decide +kernel
theorem dL_law_2476 : decode cL_law 2476 = .ok (.iload 4, 2) := by decide +kernel
theorem dL_law_2478 : decode cL_law 2478 = .ok (.iconst 2, 1) := by decide +kernel
theorem dL_law_2479 : decode cL_law 2479 = .ok (.iadd, 1) := by decide +kernel
theorem dL_law_2480 : decode cL_law 2480 = .ok (.iaload, 1) := by decide +kernel
theorem dL_law_2481 : decode cL_law 2481 = .ok (.aload_n 3, 1) := by decide +kernel
theorem dL_law_2482 : decode cL_law 2482 = .ok (.invokestatic 261, 3) := by decide +kernel
theorem dL_law_2485 : decode cL_law 2485 = .ok (.istore 5, 2) := by decide +kernel
theorem dL_law_2487 : decode cL_law 2487 = .ok (.aload_n 2, 1) := by decide +kernel
theorem dL_law_2488 : decode cL_law 2488 = .ok (.aload_n 0, 1) := by decide +kernel
theorem dL_law_2489 : decode cL_law 2489 = .ok (.iload 4, 2) := by decide +kernel
theorem dL_law_2491 : decode cL_law 2491 = .ok (.iconst 1, 1) := by decide +kernel
theorem dL_law_2492 : decode cL_law 2492 = .ok (.iadd, 1) := by decide +kernel
theorem dL_law_2493 : decode cL_law 2493 = .ok (.iaload, 1) := by decide +kernel
theorem dL_law_2494 : decode cL_law 2494 = .ok (.aload_n 0, 1) := by decide +kernel
theorem dL_law_2495 : decode cL_law 2495 = .ok (.iload 4, 2) := by decide +kernel
theorem dL_law_2497 : decode cL_law 2497 = .ok (.iconst 2, 1) := by decide +kernel
theorem dL_law_2498 : decode cL_law 2498 = .ok (.iadd, 1) := by decide +kernel
theorem dL_law_2499 : decode cL_law 2499 = .ok (.iaload, 1) := by decide +kernel
theorem dL_law_2500 : decode cL_law 2500 = .ok (.invokevirtual 263, 3) := by decide +kernel
theorem dL_law_2503 : decode cL_law 2503 = .ok (.istore 6, 2) := by decide +kernel
theorem dL_law_2505 : decode cL_law 2505 = .ok (.aload_n 2, 1) := by decide +kernel
theorem dL_law_2506 : decode cL_law 2506 = .ok (.invokevirtual 137, 3) := by decide +kernel
theorem dL_law_2509 : decode cL_law 2509 = .ok (.iload 5, 2) := by decide +kernel
theorem dL_law_2511 : decode cL_law 2511 = .ok (.if_icmp .eq 5, 3) := by decide +kernel
theorem dL_law_2514 : decode cL_law 2514 = .ok (.iconst 0, 1) := by decide +kernel
theorem dL_law_2515 : decode cL_law 2515 = .ok (.ireturn, 1) := by decide +kernel
theorem dL_law_2516 : decode cL_law 2516 = .ok (.iload 5, 2) := by decide +kernel
theorem dL_law_2518 : decode cL_law 2518 = .ok (.ifCond .ne 15, 3) := by decide +kernel
theorem dL_law_2521 : decode cL_law 2521 = .ok (.aload_n 3, 1) := by decide +kernel
theorem dL_law_2522 : decode cL_law 2522 = .ok (.iconst 0, 1) := by decide +kernel
theorem dL_law_2523 : decode cL_law 2523 = .ok (.laload, 1) := by decide +kernel
theorem dL_law_2524 : decode cL_law 2524 = .ok (.iload 6, 2) := by decide +kernel
theorem dL_law_2526 : decode cL_law 2526 = .ok (.i2l, 1) := by decide +kernel
theorem dL_law_2527 : decode cL_law 2527 = .ok (.lcmp, 1) := by decide +kernel
theorem dL_law_2528 : decode cL_law 2528 = .ok (.ifCond .eq 5, 3) := by decide +kernel
theorem dL_law_2531 : decode cL_law 2531 = .ok (.iconst 0, 1) := by decide +kernel
theorem dL_law_2532 : decode cL_law 2532 = .ok (.ireturn, 1) := by decide +kernel
theorem dL_law_2533 : decode cL_law 2533 = .ok (.goto 83, 3) := by decide +kernel
set_option maxHeartbeats 4000000 in
set_option maxRecDepth 100000 in
theorem lc_conjugate {p : Program} {l : Launch} {e : Env} {s : State} {m : MethodId} {below : List Frame} {meth : Method} {c : Code} {b : Nat} {xs : Nat → Int32} {dC : Nat → ClassId} {dI : Nat → Nat → Nat} {cI cB cJ cZ : ClassId} {sa : Nat → Nat} (C0 : lw_At p s m meth c b 6 xs) (hG : ow_LG l s dC dI cI cB cJ cZ sa) {x y qo : Nat} {u : Nat → Nat} {v : List Value × (Nat → Nat)} (hv : kn_X13_init v) {H : Heap} {locs : List Loc} {ls : Array Slot} (hP : va_P (dC, dI) vwCl (wd_X11_init cI cB cJ x u ++ (wd_X13_init cI cB y v ++ [(qo, .inl (cJ, 1, .inr (.inl (fun _ => 0))))])) H) (hD : va_D (fun q : Nat => s.heap.size ≤ q) (wd_X11_init cI cB cJ x u ++ (wd_X13_init cI cB y v ++ [(qo, .inl (cJ, 1, .inr (.inl (fun _ => 0))))]))) (hS : va_S (fun q : Nat => s.heap.size ≤ q) s.heap H locs) (hl : lv_has ls 8 [(0, .ref b), (1, .ref x), (2, .ref y), (3, .ref qo), (4, .int 0)]) : W p l e room_1 s m #[Value.ref b] below meth c H locs 694 1334208 (lw_Z below #[Value.ref b] s) (F0 m 2468 ls []) := by
  obtain ⟨hx, hb, hr, hml, hown, hts, hX, hbl, hlocks, hgv⟩ := id C0
  have hown : s.vm.findClass RL = some m.cls := hown
  have hA : ∀ q : Nat, s.heap.size ≤ q → (fun q : Nat => s.heap.size ≤ q) q := fun _ h => h
  have hbA : ¬ (fun q : Nat => s.heap.size ≤ q) b := Nat.not_le.mpr hbl
  have hK := hG.2.1
  have hP := hP.sub (ws' := [(x, .inr (14, [.ref (u 0), .ref (u 1), .ref (u 2), .ref (u 3), .ref (u 4), .ref (u 5), .ref (u 6), .ref (u 7), .ref (u 8), .ref (u 9), .ref (u 10), .ref (u 11), .ref (u 12), .ref (u 13), .ref (u 14), .ref (u 15), .ref (u 16), .ref (u 17), .ref (u 18)])), ((u 14), .inl (cI, 20, .inl (fun _ => 0))), (y, .inr (16, v.1)), ((v.2 9), .inl (cI, 20, .inl (fun _ => 0))), (qo, .inl (cJ, 1, .inr (.inl (fun _ => 0))))]) [0, 59, 60, 70, 71] rfl
  have hD := hD.sub (ws' := [(x, .inr (14, [.ref (u 0), .ref (u 1), .ref (u 2), .ref (u 3), .ref (u 4), .ref (u 5), .ref (u 6), .ref (u 7), .ref (u 8), .ref (u 9), .ref (u 10), .ref (u 11), .ref (u 12), .ref (u 13), .ref (u 14), .ref (u 15), .ref (u 16), .ref (u 17), .ref (u 18)])), ((u 14), .inl (cI, 20, .inl (fun _ => 0))), (y, .inr (16, v.1)), ((v.2 9), .inl (cI, 20, .inl (fun _ => 0))), (qo, .inl (cJ, 1, .inr (.inl (fun _ => 0))))]) [0, 59, 60, 70, 71] (by decide) rfl
  refine lv_aload_n hx hb dL_law_2468 rfl (lv_at hl 1 rfl) ?_
  refine lv_aload_n hx hb dL_law_2469 rfl (lv_at hl 0 rfl) ?_
  refine lv_iload hx hb dL_law_2470 (lv_at hl 4 rfl) ?_
  refine lv_iconst (v := 1) hx hb dL_law_2472 (by decide) ?_
  refine lv_iadd hx hb dL_law_2473 ?_
  refine ow_topi (y := 1) (by decide) ?_
  refine va_sld hx hb hX hbl hbA hS (vp_in_nI (n := 1) (N := 6) (by decide) (by decide)) dL_law_2474 ?_
  refine ow_topi (y := xs 1) (congrArg xs (by decide)) ?_
  refine lv_aload_n hx hb dL_law_2475 rfl (lv_at hl 0 rfl) ?_
  refine lv_iload hx hb dL_law_2476 (lv_at hl 4 rfl) ?_
  refine lv_iconst (v := 2) hx hb dL_law_2478 (by decide) ?_
  refine lv_iadd hx hb dL_law_2479 ?_
  refine ow_topi (y := 2) (by decide) ?_
  refine va_sld hx hb hX hbl hbA hS (vp_in_nI (n := 2) (N := 6) (by decide) (by decide)) dL_law_2480 ?_
  refine ow_topi (y := xs 2) (congrArg xs (by decide)) ?_
  refine lv_aload_n hx hb dL_law_2481 rfl (lv_at hl 3 rfl) ?_
  have hPc := hP.sub (ws' := [(x, .inr (14, [.ref (u 0), .ref (u 1), .ref (u 2), .ref (u 3), .ref (u 4), .ref (u 5), .ref (u 6), .ref (u 7), .ref (u 8), .ref (u 9), .ref (u 10), .ref (u 11), .ref (u 12), .ref (u 13), .ref (u 14), .ref (u 15), .ref (u 16), .ref (u 17), .ref (u 18)])), ((u 14), .inl (cI, 20, .inl (fun _ => 0)))]) [0, 1] rfl
  refine vx_calli (vx_runSX (As := [.ref x, .int (xs 1), .int (xs 2), .ref qo]) (rest := []) ⟨hx, hb, hml, hown, hts⟩ (kf_L_conjugate l dC dI cI cB cJ cZ hG.1 x (sa 1) qo u (xs 1) (xs 2)) (vx_cwSW 4 hts gw_L_conjugate rfl rfl rfl (by decide +kernel) ⟨(Nat.le_of_ble_eq_true rfl), (Nat.le_of_ble_eq_true rfl)⟩) ⟨fun a U g mk q => by obtain ⟨q0, qP, qK, qT⟩ := q; exact ⟨q0, qP, va_K.moved (u := U) (U := U.calling g mk a) (Vm.Alike.refl U.vm) qK, qT.same rfl rfl⟩, fun U hU hW => ⟨rfl, by rw [hU]; exact hPc, va_K.moved hW.alike hK, (hG.2.2.2.2.1).to hS hW hU (fun q h => h.elim)⟩⟩ rfl rfl hl.1 rfl (lv_room (Nat.le_of_ble_eq_true rfl)) dL_law_2482 ⟨(Nat.le_of_ble_eq_true rfl), (Nat.le_of_ble_eq_true rfl)⟩) hS (fun q _ h => h.elim) (fun q h => h.elim) (fun q _ h => h.elim) (fun E ce q9 u9 t H1 locs1 ht hvm hp hB hz hk hS hce hcv hcl => hp.elim) (fun r7 g7 t H1 locs ht hvm hw hB hz1 hk1 hS => ?_)
  obtain rfl : r7 = 1 := hw
  have hP := hP.kept (fun k9 x9 h9 => hk1 x9.1 ((hP k9 x9 h9).lt) id)
  generalize H1 = H at hP hS ⊢
  refine W.widen (k := 695) (n := 1334214) (Nat.le_of_ble_eq_true rfl) (Nat.le_of_ble_eq_true rfl) ?_
  refine lv_istore (lv' := [(5, .int 1), (0, .ref b), (1, .ref x), (2, .ref y), (3, .ref qo), (4, .int 0)]) hx hb dL_law_2485 hl (by decide) rfl (fun ls hl => ?_)
  refine lv_aload_n hx hb dL_law_2487 rfl (lv_at hl 3 rfl) ?_
  refine lv_aload_n hx hb dL_law_2488 rfl (lv_at hl 1 rfl) ?_
  refine lv_iload hx hb dL_law_2489 (lv_at hl 5 rfl) ?_
  refine lv_iconst (v := 1) hx hb dL_law_2491 (by decide) ?_
  refine lv_iadd hx hb dL_law_2492 ?_
  refine ow_topi (y := 1) (by decide) ?_
  refine va_sld hx hb hX hbl hbA hS (vp_in_nI (n := 1) (N := 6) (by decide) (by decide)) dL_law_2493 ?_
  refine ow_topi (y := xs 1) (congrArg xs (by decide)) ?_
  refine lv_aload_n hx hb dL_law_2494 rfl (lv_at hl 1 rfl) ?_
  refine lv_iload hx hb dL_law_2495 (lv_at hl 5 rfl) ?_
  refine lv_iconst (v := 2) hx hb dL_law_2497 (by decide) ?_
  refine lv_iadd hx hb dL_law_2498 ?_
  refine ow_topi (y := 2) (by decide) ?_
  refine va_sld hx hb hX hbl hbA hS (vp_in_nI (n := 2) (N := 6) (by decide) (by decide)) dL_law_2499 ?_
  refine ow_topi (y := xs 2) (congrArg xs (by decide)) ?_
  have hPc := hP.sub (ws' := [(y, .inr (16, v.1)), ((v.2 9), .inl (cI, 20, .inl (fun _ => 0)))]) [2, 3] rfl
  have hDc := hD.sub (ws' := [(y, .inr (16, v.1)), ((v.2 9), .inl (cI, 20, .inl (fun _ => 0)))]) [2, 3] (by decide) rfl
  have hFc := va_free (wc := [(y, .inr (16, v.1)), ((v.2 9), .inl (cI, 20, .inl (fun _ => 0)))]) hD hS hA [2, 3] rfl
  refine va_calli (va_runV (As := [.int (xs 1), .int (xs 2)]) (rest := []) ⟨hx, hb, hml, hown, hts⟩ (kf_X13_conjugate l dC dI cI cB cJ cZ y (v.2 9) H.size v.1 hv.1 (hv.2.at 11 rfl) (xs 1) (xs 2)) (cwV 2 hts gw_X13_conjugate rfl rfl rfl (by decide +kernel) ⟨(Nat.le_of_ble_eq_true rfl), (Nat.le_of_ble_eq_true rfl)⟩) ⟨fun a U g mk q => by obtain ⟨q0, q1, qP, qK, qD⟩ := q; exact ⟨q0, q1, qP, va_K.moved (u := U) (U := U.calling g mk a) (Vm.Alike.refl U.vm) qK, qD⟩, va_recv hK hPc (ci := 16) (q0 := 0) rfl rfl, fun U hU hW => ⟨rfl, by rw [hU], by rw [hU]; exact hPc, va_K.moved hW.alike hK, hDc.weaken (fun _ _ _ _ => trivial)⟩⟩ rfl rfl hl.1 rfl (lv_room (Nat.le_of_ble_eq_true rfl)) dL_law_2500 ⟨(Nat.le_of_ble_eq_true rfl), (Nat.le_of_ble_eq_true rfl)⟩) hS (fun q _ h => hFc q h) hFc (fun r9 g9 t H1 locs ht hvm hw hB hz1 hk1 hS => ?_)
  obtain ⟨hP1, hD1⟩ := hB
  rw [ht] at hP1
  obtain ⟨hP, hD⟩ := va_join (wr := [(x, .inr (14, [.ref (u 0), .ref (u 1), .ref (u 2), .ref (u 3), .ref (u 4), .ref (u 5), .ref (u 6), .ref (u 7), .ref (u 8), .ref (u 9), .ref (u 10), .ref (u 11), .ref (u 12), .ref (u 13), .ref (u 14), .ref (u 15), .ref (u 16), .ref (u 17), .ref (u 18)])), ((u 14), .inl (cI, 20, .inl (fun _ => 0))), (qo, .inl (cJ, 1, .inr (.inl (fun _ => 0))))]) (w1 := [(y, .inr (16, g9))]) hP hD [2, 3] [0, 1, 4] rfl rfl (by decide) (by decide) hk1 hFc hP1 hD1
  generalize H1 = H at hP hS ⊢
  have hP : va_P (dC, dI) vwCl [(x, .inr (14, [.ref (u 0), .ref (u 1), .ref (u 2), .ref (u 3), .ref (u 4), .ref (u 5), .ref (u 6), .ref (u 7), .ref (u 8), .ref (u 9), .ref (u 10), .ref (u 11), .ref (u 12), .ref (u 13), .ref (u 14), .ref (u 15), .ref (u 16), .ref (u 17), .ref (u 18)])), ((u 14), .inl (cI, 20, .inl (fun _ => 0))), (qo, .inl (cJ, 1, .inr (.inl (fun _ => 0)))), (y, .inr (16, g9))] H := hP
  have hD : va_D (fun q : Nat => s.heap.size ≤ q) [(x, .inr (14, [.ref (u 0), .ref (u 1), .ref (u 2), .ref (u 3), .ref (u 4), .ref (u 5), .ref (u 6), .ref (u 7), .ref (u 8), .ref (u 9), .ref (u 10), .ref (u 11), .ref (u 12), .ref (u 13), .ref (u 14), .ref (u 15), .ref (u 16), .ref (u 17), .ref (u 18)])), ((u 14), .inl (cI, 20, .inl (fun _ => 0))), (qo, .inl (cJ, 1, .inr (.inl (fun _ => 0)))), (y, .inr (16, g9))] := hD
  obtain ⟨hr9, hg0⟩ := hw
  subst hr9
  refine lv_istore (lv' := [(6, .int 0), (5, .int 1), (0, .ref b), (1, .ref x), (2, .ref y), (3, .ref qo), (4, .int 0)]) hx hb dL_law_2503 hl (by decide) rfl (fun ls hl => ?_)
  refine lv_aload_n hx hb dL_law_2505 rfl (lv_at hl 4 rfl) ?_
  have hPc := hP.sub (ws' := [(y, .inr (16, g9))]) [3] rfl
  refine va_calli (va_runV (As := []) (rest := []) ⟨hx, hb, hml, hown, hts⟩ (kf_X13_thrownN l dC dI cI cB cJ cZ y g9 1 hg0) (cwV 0 hts gw_X13_thrown rfl rfl rfl (by decide +kernel) ⟨(Nat.le_of_ble_eq_true rfl), (Nat.le_of_ble_eq_true rfl)⟩) ⟨fun a U g mk q => by obtain ⟨q0, qP, qK⟩ := q; exact ⟨q0, qP, va_K.moved (u := U) (U := U.calling g mk a) (Vm.Alike.refl U.vm) qK⟩, va_recv hK hPc (ci := 16) (q0 := 0) rfl rfl, fun U hU hW => ⟨rfl, by rw [hU]; exact hPc, va_K.moved hW.alike hK⟩⟩ rfl rfl hl.1 rfl (lv_room (Nat.le_of_ble_eq_true rfl)) dL_law_2506 ⟨(Nat.le_of_ble_eq_true rfl), (Nat.le_of_ble_eq_true rfl)⟩) hS (fun q _ h => h.elim) (fun q h => h.elim) (fun r8 un t H1 locs ht hvm hw8 hB hz1 hk1 hS => ?_)
  obtain rfl : r8 = 1 := hw8
  have hP := hP.kept (fun k9 x9 h9 => hk1 x9.1 ((hP k9 x9 h9).lt) id)
  generalize H1 = H at hP hS ⊢
  refine lv_iload hx hb dL_law_2509 (lv_at hl 1 rfl) ?_
  refine lv_icmp_eq (tgt := 2516) hx hb dL_law_2511 (by decide) (fun _ => ?_) (fun c9 => absurd (rfl) c9)
  refine lv_iload hx hb dL_law_2516 (lv_at hl 1 rfl) ?_
  refine lv_if_ne (tgt := 2533) hx hb dL_law_2518 (by decide) (fun _ => ?_) (fun c9 => absurd c9 (by decide))
  refine lv_goto (tgt := 2616) hx hb dL_law_2533 (by decide) ?_
  exact lc_fin C0 hS (lv_sub hl [2, 6] rfl) (Nat.le_of_ble_eq_true rfl) (Nat.le_of_ble_eq_true rfl)
theorem dL_law_2536 : decode cL_law 2536 = .ok (.aload_n 1, 1) := by decide +kernel
theorem dL_law_2537 : decode cL_law 2537 = .ok (.aload_n 0, 1) := by decide +kernel
theorem dL_law_2538 : decode cL_law 2538 = .ok (.iload 4, 2) := by decide +kernel
theorem dL_law_2540 : decode cL_law 2540 = .ok (.iconst 1, 1) := by decide +kernel
theorem dL_law_2541 : decode cL_law 2541 = .ok (.iadd, 1) := by decide +kernel
theorem dL_law_2542 : decode cL_law 2542 = .ok (.iaload, 1) := by decide +kernel
theorem dL_law_2543 : decode cL_law 2543 = .ok (.aload_n 0, 1) := by decide +kernel
theorem dL_law_2544 : decode cL_law 2544 = .ok (.iload 4, 2) := by decide +kernel
theorem dL_law_2546 : decode cL_law 2546 = .ok (.iconst 2, 1) := by decide +kernel
theorem dL_law_2547 : decode cL_law 2547 = .ok (.iadd, 1) := by decide +kernel
theorem dL_law_2548 : decode cL_law 2548 = .ok (.iaload, 1) := by decide +kernel
theorem dL_law_2549 : decode cL_law 2549 = .ok (.aload_n 0, 1) := by decide +kernel
theorem dL_law_2550 : decode cL_law 2550 = .ok (.iload 4, 2) := by decide +kernel
theorem dL_law_2552 : decode cL_law 2552 = .ok (.iconst 3, 1) := by decide +kernel
theorem dL_law_2553 : decode cL_law 2553 = .ok (.iadd, 1) := by decide +kernel
theorem dL_law_2554 : decode cL_law 2554 = .ok (.iaload, 1) := by decide +kernel
theorem dL_law_2555 : decode cL_law 2555 = .ok (.aload_n 3, 1) := by decide +kernel
theorem dL_law_2556 : decode cL_law 2556 = .ok (.invokestatic 264, 3) := by decide +kernel
theorem dL_law_2559 : decode cL_law 2559 = .ok (.istore 5, 2) := by decide +kernel
theorem dL_law_2561 : decode cL_law 2561 = .ok (.aload_n 2, 1) := by decide +kernel
theorem dL_law_2562 : decode cL_law 2562 = .ok (.aload_n 0, 1) := by decide +kernel
theorem dL_law_2563 : decode cL_law 2563 = .ok (.iload 4, 2) := by decide +kernel
theorem dL_law_2565 : decode cL_law 2565 = .ok (.iconst 1, 1) := by decide +kernel
theorem dL_law_2566 : decode cL_law 2566 = .ok (.iadd, 1) := by decide +kernel
theorem dL_law_2567 : decode cL_law 2567 = .ok (.iaload, 1) := by decide +kernel
theorem dL_law_2568 : decode cL_law 2568 = .ok (.aload_n 0, 1) := by decide +kernel
theorem dL_law_2569 : decode cL_law 2569 = .ok (.iload 4, 2) := by decide +kernel
theorem dL_law_2571 : decode cL_law 2571 = .ok (.iconst 2, 1) := by decide +kernel
theorem dL_law_2572 : decode cL_law 2572 = .ok (.iadd, 1) := by decide +kernel
theorem dL_law_2573 : decode cL_law 2573 = .ok (.iaload, 1) := by decide +kernel
theorem dL_law_2574 : decode cL_law 2574 = .ok (.aload_n 0, 1) := by decide +kernel
theorem dL_law_2575 : decode cL_law 2575 = .ok (.iload 4, 2) := by decide +kernel
theorem dL_law_2577 : decode cL_law 2577 = .ok (.iconst 3, 1) := by decide +kernel
theorem dL_law_2578 : decode cL_law 2578 = .ok (.iadd, 1) := by decide +kernel
theorem dL_law_2579 : decode cL_law 2579 = .ok (.iaload, 1) := by decide +kernel
theorem dL_law_2580 : decode cL_law 2580 = .ok (.invokevirtual 266, 3) := by decide +kernel
theorem dL_law_2583 : decode cL_law 2583 = .ok (.istore 6, 2) := by decide +kernel
theorem dL_law_2585 : decode cL_law 2585 = .ok (.aload_n 2, 1) := by decide +kernel
theorem dL_law_2586 : decode cL_law 2586 = .ok (.invokevirtual 137, 3) := by decide +kernel
theorem dL_law_2589 : decode cL_law 2589 = .ok (.iload 5, 2) := by decide +kernel
theorem dL_law_2591 : decode cL_law 2591 = .ok (.if_icmp .eq 5, 3) := by decide +kernel
theorem dL_law_2594 : decode cL_law 2594 = .ok (.iconst 0, 1) := by decide +kernel
theorem dL_law_2595 : decode cL_law 2595 = .ok (.ireturn, 1) := by decide +kernel
theorem dL_law_2596 : decode cL_law 2596 = .ok (.iload 5, 2) := by decide +kernel
theorem dL_law_2598 : decode cL_law 2598 = .ok (.ifCond .ne 15, 3) := by decide +kernel
theorem dL_law_2601 : decode cL_law 2601 = .ok (.aload_n 3, 1) := by decide +kernel
theorem dL_law_2602 : decode cL_law 2602 = .ok (.iconst 0, 1) := by decide +kernel
theorem dL_law_2603 : decode cL_law 2603 = .ok (.laload, 1) := by decide +kernel
theorem dL_law_2604 : decode cL_law 2604 = .ok (.iload 6, 2) := by decide +kernel
theorem dL_law_2606 : decode cL_law 2606 = .ok (.i2l, 1) := by decide +kernel
theorem dL_law_2607 : decode cL_law 2607 = .ok (.lcmp, 1) := by decide +kernel
theorem dL_law_2608 : decode cL_law 2608 = .ok (.ifCond .eq 5, 3) := by decide +kernel
theorem dL_law_2611 : decode cL_law 2611 = .ok (.iconst 0, 1) := by decide +kernel
theorem dL_law_2612 : decode cL_law 2612 = .ok (.ireturn, 1) := by decide +kernel
theorem dL_law_2613 : decode cL_law 2613 = .ok (.goto 3, 3) := by decide +kernel
set_option maxHeartbeats 4000000 in
set_option maxRecDepth 100000 in
theorem lc_two {p : Program} {l : Launch} {e : Env} {s : State} {m : MethodId} {below : List Frame} {meth : Method} {c : Code} {b : Nat} {xs : Nat → Int32} {dC : Nat → ClassId} {dI : Nat → Nat → Nat} {cI cB cJ cZ : ClassId} {sa : Nat → Nat} (C0 : lw_At p s m meth c b 6 xs) (hG : ow_LG l s dC dI cI cB cJ cZ sa) {x y qo : Nat} {u : Nat → Nat} {v : List Value × (Nat → Nat)} (hv : kn_X13_init v) {H : Heap} {locs : List Loc} {ls : Array Slot} (hP : va_P (dC, dI) vwCl (wd_X11_init cI cB cJ x u ++ (wd_X13_init cI cB y v ++ [(qo, .inl (cJ, 1, .inr (.inl (fun _ => 0))))])) H) (hD : va_D (fun q : Nat => s.heap.size ≤ q) (wd_X11_init cI cB cJ x u ++ (wd_X13_init cI cB y v ++ [(qo, .inl (cJ, 1, .inr (.inl (fun _ => 0))))]))) (hS : va_S (fun q : Nat => s.heap.size ≤ q) s.heap H locs) (hl : lv_has ls 8 [(0, .ref b), (1, .ref x), (2, .ref y), (3, .ref qo), (4, .int 0)]) : W p l e room_1 s m #[Value.ref b] below meth c H locs 694 1334208 (lw_Z below #[Value.ref b] s) (F0 m 2536 ls []) := by
  obtain ⟨hx, hb, hr, hml, hown, hts, hX, hbl, hlocks, hgv⟩ := id C0
  have hown : s.vm.findClass RL = some m.cls := hown
  have hA : ∀ q : Nat, s.heap.size ≤ q → (fun q : Nat => s.heap.size ≤ q) q := fun _ h => h
  have hbA : ¬ (fun q : Nat => s.heap.size ≤ q) b := Nat.not_le.mpr hbl
  have hK := hG.2.1
  have hP := hP.sub (ws' := [(x, .inr (14, [.ref (u 0), .ref (u 1), .ref (u 2), .ref (u 3), .ref (u 4), .ref (u 5), .ref (u 6), .ref (u 7), .ref (u 8), .ref (u 9), .ref (u 10), .ref (u 11), .ref (u 12), .ref (u 13), .ref (u 14), .ref (u 15), .ref (u 16), .ref (u 17), .ref (u 18)])), ((u 14), .inl (cI, 20, .inl (fun _ => 0))), (y, .inr (16, v.1)), ((v.2 9), .inl (cI, 20, .inl (fun _ => 0))), (qo, .inl (cJ, 1, .inr (.inl (fun _ => 0))))]) [0, 59, 60, 70, 71] rfl
  have hD := hD.sub (ws' := [(x, .inr (14, [.ref (u 0), .ref (u 1), .ref (u 2), .ref (u 3), .ref (u 4), .ref (u 5), .ref (u 6), .ref (u 7), .ref (u 8), .ref (u 9), .ref (u 10), .ref (u 11), .ref (u 12), .ref (u 13), .ref (u 14), .ref (u 15), .ref (u 16), .ref (u 17), .ref (u 18)])), ((u 14), .inl (cI, 20, .inl (fun _ => 0))), (y, .inr (16, v.1)), ((v.2 9), .inl (cI, 20, .inl (fun _ => 0))), (qo, .inl (cJ, 1, .inr (.inl (fun _ => 0))))]) [0, 59, 60, 70, 71] (by decide) rfl
  refine lv_aload_n hx hb dL_law_2536 rfl (lv_at hl 1 rfl) ?_
  refine lv_aload_n hx hb dL_law_2537 rfl (lv_at hl 0 rfl) ?_
  refine lv_iload hx hb dL_law_2538 (lv_at hl 4 rfl) ?_
  refine lv_iconst (v := 1) hx hb dL_law_2540 (by decide) ?_
  refine lv_iadd hx hb dL_law_2541 ?_
  refine ow_topi (y := 1) (by decide) ?_
  refine va_sld hx hb hX hbl hbA hS (vp_in_nI (n := 1) (N := 6) (by decide) (by decide)) dL_law_2542 ?_
  refine ow_topi (y := xs 1) (congrArg xs (by decide)) ?_
  refine lv_aload_n hx hb dL_law_2543 rfl (lv_at hl 0 rfl) ?_
  refine lv_iload hx hb dL_law_2544 (lv_at hl 4 rfl) ?_
  refine lv_iconst (v := 2) hx hb dL_law_2546 (by decide) ?_
  refine lv_iadd hx hb dL_law_2547 ?_
  refine ow_topi (y := 2) (by decide) ?_
  refine va_sld hx hb hX hbl hbA hS (vp_in_nI (n := 2) (N := 6) (by decide) (by decide)) dL_law_2548 ?_
  refine ow_topi (y := xs 2) (congrArg xs (by decide)) ?_
  refine lv_aload_n hx hb dL_law_2549 rfl (lv_at hl 0 rfl) ?_
  refine lv_iload hx hb dL_law_2550 (lv_at hl 4 rfl) ?_
  refine lv_iconst (v := 3) hx hb dL_law_2552 (by decide) ?_
  refine lv_iadd hx hb dL_law_2553 ?_
  refine ow_topi (y := 3) (by decide) ?_
  refine va_sld hx hb hX hbl hbA hS (vp_in_nI (n := 3) (N := 6) (by decide) (by decide)) dL_law_2554 ?_
  refine ow_topi (y := xs 3) (congrArg xs (by decide)) ?_
  refine lv_aload_n hx hb dL_law_2555 rfl (lv_at hl 3 rfl) ?_
  have hPc := hP.sub (ws' := [(x, .inr (14, [.ref (u 0), .ref (u 1), .ref (u 2), .ref (u 3), .ref (u 4), .ref (u 5), .ref (u 6), .ref (u 7), .ref (u 8), .ref (u 9), .ref (u 10), .ref (u 11), .ref (u 12), .ref (u 13), .ref (u 14), .ref (u 15), .ref (u 16), .ref (u 17), .ref (u 18)])), ((u 14), .inl (cI, 20, .inl (fun _ => 0)))]) [0, 1] rfl
  refine vx_calli (vx_runSX (As := [.ref x, .int (xs 1), .int (xs 2), .int (xs 3), .ref qo]) (rest := []) ⟨hx, hb, hml, hown, hts⟩ (kf_L_two l dC dI cI cB cJ cZ hG.1 x (sa 1) qo u (xs 1) (xs 2) (xs 3)) (vx_cwSW 5 hts gw_L_two rfl rfl rfl (by decide +kernel) ⟨(Nat.le_of_ble_eq_true rfl), (Nat.le_of_ble_eq_true rfl)⟩) ⟨fun a U g mk q => by obtain ⟨q0, qP, qK, qT⟩ := q; exact ⟨q0, qP, va_K.moved (u := U) (U := U.calling g mk a) (Vm.Alike.refl U.vm) qK, qT.same rfl rfl⟩, fun U hU hW => ⟨rfl, by rw [hU]; exact hPc, va_K.moved hW.alike hK, (hG.2.2.2.2.1).to hS hW hU (fun q h => h.elim)⟩⟩ rfl rfl hl.1 rfl (lv_room (Nat.le_of_ble_eq_true rfl)) dL_law_2556 ⟨(Nat.le_of_ble_eq_true rfl), (Nat.le_of_ble_eq_true rfl)⟩) hS (fun q _ h => h.elim) (fun q h => h.elim) (fun q _ h => h.elim) (fun E ce q9 u9 t H1 locs1 ht hvm hp hB hz hk hS hce hcv hcl => hp.elim) (fun r7 g7 t H1 locs ht hvm hw hB hz1 hk1 hS => ?_)
  obtain rfl : r7 = 1 := hw
  have hP := hP.kept (fun k9 x9 h9 => hk1 x9.1 ((hP k9 x9 h9).lt) id)
  generalize H1 = H at hP hS ⊢
  refine W.widen (k := 695) (n := 1334214) (Nat.le_of_ble_eq_true rfl) (Nat.le_of_ble_eq_true rfl) ?_
  refine lv_istore (lv' := [(5, .int 1), (0, .ref b), (1, .ref x), (2, .ref y), (3, .ref qo), (4, .int 0)]) hx hb dL_law_2559 hl (by decide) rfl (fun ls hl => ?_)
  refine lv_aload_n hx hb dL_law_2561 rfl (lv_at hl 3 rfl) ?_
  refine lv_aload_n hx hb dL_law_2562 rfl (lv_at hl 1 rfl) ?_
  refine lv_iload hx hb dL_law_2563 (lv_at hl 5 rfl) ?_
  refine lv_iconst (v := 1) hx hb dL_law_2565 (by decide) ?_
  refine lv_iadd hx hb dL_law_2566 ?_
  refine ow_topi (y := 1) (by decide) ?_
  refine va_sld hx hb hX hbl hbA hS (vp_in_nI (n := 1) (N := 6) (by decide) (by decide)) dL_law_2567 ?_
  refine ow_topi (y := xs 1) (congrArg xs (by decide)) ?_
  refine lv_aload_n hx hb dL_law_2568 rfl (lv_at hl 1 rfl) ?_
  refine lv_iload hx hb dL_law_2569 (lv_at hl 5 rfl) ?_
  refine lv_iconst (v := 2) hx hb dL_law_2571 (by decide) ?_
  refine lv_iadd hx hb dL_law_2572 ?_
  refine ow_topi (y := 2) (by decide) ?_
  refine va_sld hx hb hX hbl hbA hS (vp_in_nI (n := 2) (N := 6) (by decide) (by decide)) dL_law_2573 ?_
  refine ow_topi (y := xs 2) (congrArg xs (by decide)) ?_
  refine lv_aload_n hx hb dL_law_2574 rfl (lv_at hl 1 rfl) ?_
  refine lv_iload hx hb dL_law_2575 (lv_at hl 5 rfl) ?_
  refine lv_iconst (v := 3) hx hb dL_law_2577 (by decide) ?_
  refine lv_iadd hx hb dL_law_2578 ?_
  refine ow_topi (y := 3) (by decide) ?_
  refine va_sld hx hb hX hbl hbA hS (vp_in_nI (n := 3) (N := 6) (by decide) (by decide)) dL_law_2579 ?_
  refine ow_topi (y := xs 3) (congrArg xs (by decide)) ?_
  have hPc := hP.sub (ws' := [(y, .inr (16, v.1)), ((v.2 9), .inl (cI, 20, .inl (fun _ => 0)))]) [2, 3] rfl
  have hDc := hD.sub (ws' := [(y, .inr (16, v.1)), ((v.2 9), .inl (cI, 20, .inl (fun _ => 0)))]) [2, 3] (by decide) rfl
  have hFc := va_free (wc := [(y, .inr (16, v.1)), ((v.2 9), .inl (cI, 20, .inl (fun _ => 0)))]) hD hS hA [2, 3] rfl
  refine va_calli (va_runV (As := [.int (xs 1), .int (xs 2), .int (xs 3)]) (rest := []) ⟨hx, hb, hml, hown, hts⟩ (kf_X13_two l dC dI cI cB cJ cZ y (v.2 9) H.size v.1 hv.1 (hv.2.at 11 rfl) (xs 1) (xs 2) (xs 3)) (cwV 3 hts gw_X13_two rfl rfl rfl (by decide +kernel) ⟨(Nat.le_of_ble_eq_true rfl), (Nat.le_of_ble_eq_true rfl)⟩) ⟨fun a U g mk q => by obtain ⟨q0, q1, qP, qK, qD⟩ := q; exact ⟨q0, q1, qP, va_K.moved (u := U) (U := U.calling g mk a) (Vm.Alike.refl U.vm) qK, qD⟩, va_recv hK hPc (ci := 16) (q0 := 0) rfl rfl, fun U hU hW => ⟨rfl, by rw [hU], by rw [hU]; exact hPc, va_K.moved hW.alike hK, hDc.weaken (fun _ _ _ _ => trivial)⟩⟩ rfl rfl hl.1 rfl (lv_room (Nat.le_of_ble_eq_true rfl)) dL_law_2580 ⟨(Nat.le_of_ble_eq_true rfl), (Nat.le_of_ble_eq_true rfl)⟩) hS (fun q _ h => hFc q h) hFc (fun r9 g9 t H1 locs ht hvm hw hB hz1 hk1 hS => ?_)
  obtain ⟨hP1, hD1⟩ := hB
  rw [ht] at hP1
  obtain ⟨hP, hD⟩ := va_join (wr := [(x, .inr (14, [.ref (u 0), .ref (u 1), .ref (u 2), .ref (u 3), .ref (u 4), .ref (u 5), .ref (u 6), .ref (u 7), .ref (u 8), .ref (u 9), .ref (u 10), .ref (u 11), .ref (u 12), .ref (u 13), .ref (u 14), .ref (u 15), .ref (u 16), .ref (u 17), .ref (u 18)])), ((u 14), .inl (cI, 20, .inl (fun _ => 0))), (qo, .inl (cJ, 1, .inr (.inl (fun _ => 0))))]) (w1 := [(y, .inr (16, g9))]) hP hD [2, 3] [0, 1, 4] rfl rfl (by decide) (by decide) hk1 hFc hP1 hD1
  generalize H1 = H at hP hS ⊢
  have hP : va_P (dC, dI) vwCl [(x, .inr (14, [.ref (u 0), .ref (u 1), .ref (u 2), .ref (u 3), .ref (u 4), .ref (u 5), .ref (u 6), .ref (u 7), .ref (u 8), .ref (u 9), .ref (u 10), .ref (u 11), .ref (u 12), .ref (u 13), .ref (u 14), .ref (u 15), .ref (u 16), .ref (u 17), .ref (u 18)])), ((u 14), .inl (cI, 20, .inl (fun _ => 0))), (qo, .inl (cJ, 1, .inr (.inl (fun _ => 0)))), (y, .inr (16, g9))] H := hP
  have hD : va_D (fun q : Nat => s.heap.size ≤ q) [(x, .inr (14, [.ref (u 0), .ref (u 1), .ref (u 2), .ref (u 3), .ref (u 4), .ref (u 5), .ref (u 6), .ref (u 7), .ref (u 8), .ref (u 9), .ref (u 10), .ref (u 11), .ref (u 12), .ref (u 13), .ref (u 14), .ref (u 15), .ref (u 16), .ref (u 17), .ref (u 18)])), ((u 14), .inl (cI, 20, .inl (fun _ => 0))), (qo, .inl (cJ, 1, .inr (.inl (fun _ => 0)))), (y, .inr (16, g9))] := hD
  obtain ⟨hr9, hg0⟩ := hw
  subst hr9
  refine lv_istore (lv' := [(6, .int 0), (5, .int 1), (0, .ref b), (1, .ref x), (2, .ref y), (3, .ref qo), (4, .int 0)]) hx hb dL_law_2583 hl (by decide) rfl (fun ls hl => ?_)
  refine lv_aload_n hx hb dL_law_2585 rfl (lv_at hl 4 rfl) ?_
  have hPc := hP.sub (ws' := [(y, .inr (16, g9))]) [3] rfl
  refine va_calli (va_runV (As := []) (rest := []) ⟨hx, hb, hml, hown, hts⟩ (kf_X13_thrownN l dC dI cI cB cJ cZ y g9 1 hg0) (cwV 0 hts gw_X13_thrown rfl rfl rfl (by decide +kernel) ⟨(Nat.le_of_ble_eq_true rfl), (Nat.le_of_ble_eq_true rfl)⟩) ⟨fun a U g mk q => by obtain ⟨q0, qP, qK⟩ := q; exact ⟨q0, qP, va_K.moved (u := U) (U := U.calling g mk a) (Vm.Alike.refl U.vm) qK⟩, va_recv hK hPc (ci := 16) (q0 := 0) rfl rfl, fun U hU hW => ⟨rfl, by rw [hU]; exact hPc, va_K.moved hW.alike hK⟩⟩ rfl rfl hl.1 rfl (lv_room (Nat.le_of_ble_eq_true rfl)) dL_law_2586 ⟨(Nat.le_of_ble_eq_true rfl), (Nat.le_of_ble_eq_true rfl)⟩) hS (fun q _ h => h.elim) (fun q h => h.elim) (fun r8 un t H1 locs ht hvm hw8 hB hz1 hk1 hS => ?_)
  obtain rfl : r8 = 1 := hw8
  have hP := hP.kept (fun k9 x9 h9 => hk1 x9.1 ((hP k9 x9 h9).lt) id)
  generalize H1 = H at hP hS ⊢
  refine lv_iload hx hb dL_law_2589 (lv_at hl 1 rfl) ?_
  refine lv_icmp_eq (tgt := 2596) hx hb dL_law_2591 (by decide) (fun _ => ?_) (fun c9 => absurd (rfl) c9)
  refine lv_iload hx hb dL_law_2596 (lv_at hl 1 rfl) ?_
  refine lv_if_ne (tgt := 2613) hx hb dL_law_2598 (by decide) (fun _ => ?_) (fun c9 => absurd c9 (by decide))
  refine lv_goto (tgt := 2616) hx hb dL_law_2613 (by decide) ?_
  exact lc_fin C0 hS (lv_sub hl [2, 6] rfl) (Nat.le_of_ble_eq_true rfl) (Nat.le_of_ble_eq_true rfl)
