theorem dz_212 : decode cL_law 212 = .ok (.aload_n 1, 1) := by decide +kernel
theorem dz_213 : decode cL_law 213 = .ok (.aload_n 0, 1) := by decide +kernel
theorem dz_214 : decode cL_law 214 = .ok (.iload 4, 2) := by decide +kernel
theorem dz_216 : decode cL_law 216 = .ok (.iconst 1, 1) := by decide +kernel
theorem dz_217 : decode cL_law 217 = .ok (.iadd, 1) := by decide +kernel
theorem dz_218 : decode cL_law 218 = .ok (.iaload, 1) := by decide +kernel
theorem dz_219 : decode cL_law 219 = .ok (.aload_n 0, 1) := by decide +kernel
theorem dz_220 : decode cL_law 220 = .ok (.iload 4, 2) := by decide +kernel
theorem dz_222 : decode cL_law 222 = .ok (.iconst 2, 1) := by decide +kernel
theorem dz_223 : decode cL_law 223 = .ok (.iadd, 1) := by decide +kernel
theorem dz_224 : decode cL_law 224 = .ok (.iaload, 1) := by decide +kernel
theorem dz_225 : decode cL_law 225 = .ok (.aload_n 0, 1) := by decide +kernel
theorem dz_226 : decode cL_law 226 = .ok (.iload 4, 2) := by decide +kernel
theorem dz_228 : decode cL_law 228 = .ok (.iconst 3, 1) := by decide +kernel
theorem dz_229 : decode cL_law 229 = .ok (.iadd, 1) := by decide +kernel
theorem dz_230 : decode cL_law 230 = .ok (.iaload, 1) := by decide +kernel
theorem dz_231 : decode cL_law 231 = .ok (.aload_n 0, 1) := by decide +kernel
theorem dz_232 : decode cL_law 232 = .ok (.iload 4, 2) := by decide +kernel
theorem dz_234 : decode cL_law 234 = .ok (.iconst 4, 1) := by decide +kernel
theorem dz_235 : decode cL_law 235 = .ok (.iadd, 1) := by decide +kernel
theorem dz_236 : decode cL_law 236 = .ok (.iaload, 1) := by decide +kernel
theorem dz_237 : decode cL_law 237 = .ok (.aload_n 0, 1) := by decide +kernel
theorem dz_238 : decode cL_law 238 = .ok (.iload 4, 2) := by decide +kernel
theorem dz_240 : decode cL_law 240 = .ok (.iconst 5, 1) := by decide +kernel
theorem dz_241 : decode cL_law 241 = .ok (.iadd, 1) := by decide +kernel
theorem dz_242 : decode cL_law 242 = .ok (.iaload, 1) := by decide +kernel
theorem dz_243 : decode cL_law 243 = .ok (.aload_n 3, 1) := by decide +kernel
theorem dz_244 : decode cL_law 244 = .ok (.invokestatic 131, 3) := by decide +kernel
theorem dz_247 : decode cL_law 247 = .ok (.istore 5, 2) := by decide +kernel
theorem dz_249 : decode cL_law 249 = .ok (.aload_n 2, 1) := by decide +kernel
theorem dz_250 : decode cL_law 250 = .ok (.aload_n 0, 1) := by decide +kernel
theorem dz_251 : decode cL_law 251 = .ok (.iload 4, 2) := by decide +kernel
theorem dz_253 : decode cL_law 253 = .ok (.iconst 1, 1) := by decide +kernel
theorem dz_254 : decode cL_law 254 = .ok (.iadd, 1) := by decide +kernel
theorem dz_255 : decode cL_law 255 = .ok (.iaload, 1) := by decide +kernel
theorem dz_256 : decode cL_law 256 = .ok (.aload_n 0, 1) := by decide +kernel
theorem dz_257 : decode cL_law 257 = .ok (.iload 4, 2) := by decide +kernel
theorem dz_259 : decode cL_law 259 = .ok (.iconst 2, 1) := by decide +kernel
theorem dz_260 : decode cL_law 260 = .ok (.iadd, 1) := by decide +kernel
theorem dz_261 : decode cL_law 261 = .ok (.iaload, 1) := by decide +kernel
theorem dz_262 : decode cL_law 262 = .ok (.aload_n 0, 1) := by decide +kernel
theorem dz_263 : decode cL_law 263 = .ok (.iload 4, 2) := by decide +kernel
theorem dz_265 : decode cL_law 265 = .ok (.iconst 3, 1) := by decide +kernel
theorem dz_266 : decode cL_law 266 = .ok (.iadd, 1) := by decide +kernel
theorem dz_267 : decode cL_law 267 = .ok (.iaload, 1) := by decide +kernel
theorem dz_268 : decode cL_law 268 = .ok (.aload_n 0, 1) := by decide +kernel
theorem dz_269 : decode cL_law 269 = .ok (.iload 4, 2) := by decide +kernel
theorem dz_271 : decode cL_law 271 = .ok (.iconst 4, 1) := by decide +kernel
theorem dz_272 : decode cL_law 272 = .ok (.iadd, 1) := by decide +kernel
theorem dz_273 : decode cL_law 273 = .ok (.iaload, 1) := by decide +kernel
theorem dz_274 : decode cL_law 274 = .ok (.aload_n 0, 1) := by decide +kernel
theorem dz_275 : decode cL_law 275 = .ok (.iload 4, 2) := by decide +kernel
theorem dz_277 : decode cL_law 277 = .ok (.iconst 5, 1) := by decide +kernel
theorem dz_278 : decode cL_law 278 = .ok (.iadd, 1) := by decide +kernel
theorem dz_279 : decode cL_law 279 = .ok (.iaload, 1) := by decide +kernel
theorem dz_280 : decode cL_law 280 = .ok (.invokevirtual 136, 3) := by decide +kernel
theorem dz_283 : decode cL_law 283 = .ok (.istore 6, 2) := by decide +kernel
theorem dz_285 : decode cL_law 285 = .ok (.aload_n 2, 1) := by decide +kernel
theorem dz_286 : decode cL_law 286 = .ok (.invokevirtual 137, 3) := by decide +kernel
theorem dz_289 : decode cL_law 289 = .ok (.iload 5, 2) := by decide +kernel
theorem dz_291 : decode cL_law 291 = .ok (.if_icmp .eq 5, 3) := by decide +kernel
theorem dz_294 : decode cL_law 294 = .ok (.iconst 0, 1) := by decide +kernel
theorem dz_295 : decode cL_law 295 = .ok (.ireturn, 1) := by decide +kernel
theorem dz_296 : decode cL_law 296 = .ok (.iload 5, 2) := by decide +kernel
theorem dz_298 : decode cL_law 298 = .ok (.ifCond .ne 15, 3) := by decide +kernel
theorem dz_301 : decode cL_law 301 = .ok (.aload_n 3, 1) := by decide +kernel
theorem dz_302 : decode cL_law 302 = .ok (.iconst 0, 1) := by decide +kernel
theorem dz_303 : decode cL_law 303 = .ok (.laload, 1) := by decide +kernel
theorem dz_304 : decode cL_law 304 = .ok (.iload 6, 2) := by decide +kernel
theorem dz_306 : decode cL_law 306 = .ok (.i2l, 1) := by decide +kernel
theorem dz_307 : decode cL_law 307 = .ok (.lcmp, 1) := by decide +kernel
theorem dz_308 : decode cL_law 308 = .ok (.ifCond .eq 5, 3) := by decide +kernel
theorem dz_311 : decode cL_law 311 = .ok (.iconst 0, 1) := by decide +kernel
theorem dz_312 : decode cL_law 312 = .ok (.ireturn, 1) := by decide +kernel
theorem dz_313 : decode cL_law 313 = .ok (.goto 2303, 3) := by decide +kernel
def lst_feed (vl : Nat → Nat) (K : Nat) (x1 : Int32) (x2 : Int32) (x3 : Int32) (x4 : Int32) (x5 : Int32) (zc zm : ow_MS) : Option ow_LwS :=
 cs1 (le_L_feed vl K 0 x1 x2 x3 x4 x5 zc) fun v2 zc1 => cs1 (qe_X13_feed K x1 x2 x3 x4 x5 zm) fun v4 zm3 => cs1 (qe_X13_thrown K zm3) fun v6 zm5 => (if v6 = v2 then (if v2 = 0 then crJ (cX vl) zc1 52001 0 fun v7 => (if (lg_cmp v7 v4.toInt64) = 0 then some (vl, zc1, zm5)
 else none)
 else some (vl, zc1, zm5))
 else none)
set_option maxHeartbeats 4000000 in
set_option maxRecDepth 100000 in
theorem lxc_feed {p : Program} {l : Launch} {e : Env} {s : State} {m : MethodId} {args : Array Value} {below : List Frame} {meth : Method} {c : Code} {b L K n : Nat} {xs : Nat → Int32} {D : va_G} {q : Nat → ClassId} {q5 : ow_Q5} {vl u w sa : Nat → Nat} {zc zm : ow_MS} {S1 : ow_LwS} {Ts : List Cond} {Q : State → Prop} {H : Heap} {locs : List Loc} {ls : Array Slot} {cells slots : Nat} (hx : p.tables.exec = Jvm.exec) (hb : c.code = cL_law) (hml : c.maxLocals = 8) (hown : s.vm.findClass RL = some m.cls) (hts : ∀ w ∈ Ts, w.before args s = true) (hX : va_X b L xs s s.heap) (hbl : b < s.heap.size) (hZ : ∀ w ∈ wZ, w ∈ Ts) (hL1 : ∀ w ∈ wLL, w ∈ Ts) (hC1 : ∀ w ∈ wC, w ∈ Ts) (hM1 : ∀ w ∈ wM, w ∈ Ts) (hG : lx_G l s D q q5 sa) (hLn : L ≤ 3072) (hn : 6 * n + 6 ≤ L) (hq : lst_feed vl K (xs (6 * n + 1)) (xs (6 * n + 2)) (xs (6 * n + 3)) (xs (6 * n + 4)) (xs (6 * n + 5)) zc zm = some S1) (hM : lx_M D q q5 s vl u w zc zm H locs) (hl : lv_has ls 8 [(0, .ref b), (1, .ref (u 0)), (2, .ref (w 0)), (3, .ref (u 52001)), (4, .int (nI (6 * n)))]) (hc : cells + 1 ≤ 600002) (hs : slots + 6 ≤ 7302232) (kk : ∀ (zc1 zm1 : ow_MS) (H1 : Heap) (locs1 : List Loc) (ls1 : Array Slot), lx_M D q q5 s vl u w zc1 zm1 H1 locs1 → lv_has ls1 8 [(0, .ref b), (1, .ref (u 0)), (2, .ref (w 0)), (3, .ref (u 52001)), (4, .int (nI (6 * n)))] → some (vl, zc1, zm1) = some S1 → W p l e room_1 s m args below meth c H1 locs1 (cells + 1) (slots + 6) Q (F0 m 2616 ls1 [])) : W p l e room_1 s m args below meth c H locs cells slots Q (F0 m 212 ls []) := by
  have hbA : ¬ lx_A s b := Nat.not_le.mpr hbl
  generalize e1 : xs (6 * n + 1) = x1 at hq
  generalize e2 : xs (6 * n + 2) = x2 at hq
  generalize e3 : xs (6 * n + 3) = x3 at hq
  generalize e4 : xs (6 * n + 4) = x4 at hq
  generalize e5 : xs (6 * n + 5) = x5 at hq
  unfold lst_feed at hq
  refine lv_aload_n hx hb dz_212 rfl (lv_at hl 1 rfl) ?_
  refine lv_aload_n hx hb dz_213 rfl (lv_at hl 0 rfl) ?_
  refine lv_iload hx hb dz_214 (lv_at hl 4 rfl) ?_
  refine lv_iconst (v := 1) hx hb dz_216 (by decide) ?_
  refine lv_iadd hx hb dz_217 ?_
  refine ow_topi (y := nI (6 * n + 1)) (nI_add (6 * n) 1) ?_
  refine va_sld hx hb hX hbl hbA hM.2.2.2.2.2 (vp_in_nI (n := 6 * n + 1) (N := L) (by omega) (by omega)) dz_218 ?_
  refine ow_topi (y := x1) ((congrArg xs (nI_clamp (by omega))).trans e1) ?_
  refine lv_aload_n hx hb dz_219 rfl (lv_at hl 0 rfl) ?_
  refine lv_iload hx hb dz_220 (lv_at hl 4 rfl) ?_
  refine lv_iconst (v := 2) hx hb dz_222 (by decide) ?_
  refine lv_iadd hx hb dz_223 ?_
  refine ow_topi (y := nI (6 * n + 2)) (nI_add (6 * n) 2) ?_
  refine va_sld hx hb hX hbl hbA hM.2.2.2.2.2 (vp_in_nI (n := 6 * n + 2) (N := L) (by omega) (by omega)) dz_224 ?_
  refine ow_topi (y := x2) ((congrArg xs (nI_clamp (by omega))).trans e2) ?_
  refine lv_aload_n hx hb dz_225 rfl (lv_at hl 0 rfl) ?_
  refine lv_iload hx hb dz_226 (lv_at hl 4 rfl) ?_
  refine lv_iconst (v := 3) hx hb dz_228 (by decide) ?_
  refine lv_iadd hx hb dz_229 ?_
  refine ow_topi (y := nI (6 * n + 3)) (nI_add (6 * n) 3) ?_
  refine va_sld hx hb hX hbl hbA hM.2.2.2.2.2 (vp_in_nI (n := 6 * n + 3) (N := L) (by omega) (by omega)) dz_230 ?_
  refine ow_topi (y := x3) ((congrArg xs (nI_clamp (by omega))).trans e3) ?_
  refine lv_aload_n hx hb dz_231 rfl (lv_at hl 0 rfl) ?_
  refine lv_iload hx hb dz_232 (lv_at hl 4 rfl) ?_
  refine lv_iconst (v := 4) hx hb dz_234 (by decide) ?_
  refine lv_iadd hx hb dz_235 ?_
  refine ow_topi (y := nI (6 * n + 4)) (nI_add (6 * n) 4) ?_
  refine va_sld hx hb hX hbl hbA hM.2.2.2.2.2 (vp_in_nI (n := 6 * n + 4) (N := L) (by omega) (by omega)) dz_236 ?_
  refine ow_topi (y := x4) ((congrArg xs (nI_clamp (by omega))).trans e4) ?_
  refine lv_aload_n hx hb dz_237 rfl (lv_at hl 0 rfl) ?_
  refine lv_iload hx hb dz_238 (lv_at hl 4 rfl) ?_
  refine lv_iconst (v := 5) hx hb dz_240 (by decide) ?_
  refine lv_iadd hx hb dz_241 ?_
  refine ow_topi (y := nI (6 * n + 5)) (nI_add (6 * n) 5) ?_
  refine va_sld hx hb hX hbl hbA hM.2.2.2.2.2 (vp_in_nI (n := 6 * n + 5) (N := L) (by omega) (by omega)) dz_242 ?_
  refine ow_topi (y := x5) ((congrArg xs (nI_clamp (by omega))).trans e5) ?_
  refine lv_aload_n hx hb dz_243 rfl (lv_at hl 3 rfl) ?_
  obtain ⟨v2, zc1, hcq, hq⟩ := tw_cl1 hq
  refine lx_wrap hM (vx_runSX (As := [.ref (u 0), .int x1, .int x2, .int x3, .int x4, .int x5, .ref (u 52001)]) (rest := []) ⟨hx, hb, hml, hown, hts⟩ (kl_L_feed l D q vl u hM.2.2.1.1 hG.1 sa K 0 x1 x2 x3 x4 x5 (by unfold cw_X11 ci_X11; exact List.mem_singleton.mpr rfl) zc zc1 v2 hcq) (vx_cwSW 7 hts (lx_gS (lx_all wLL_good rfl) (lx_mem hL1 (hZ _ zq_0)) (hZ _ zq_1) (hZ _ zq_2) (hZ _ zq_3) rfl rfl rfl) rfl rfl rfl (by decide +kernel) ⟨(Nat.le_of_ble_eq_true rfl), (Nat.le_of_ble_eq_true rfl)⟩) (lx_preL hG hM) rfl rfl hl.1 rfl (lv_room (Nat.le_of_ble_eq_true rfl)) dz_244 ⟨(by show _ ≤ 600002; omega), (by show _ ≤ 7302232; omega)⟩) (fun H locs hM => ?_)
  refine lv_istore (lv' := [(5, .int v2), (0, .ref b), (1, .ref (u 0)), (2, .ref (w 0)), (3, .ref (u 52001)), (4, .int (nI (6 * n)))]) hx hb dz_247 hl (by decide) rfl (fun ls hl => ?_)
  refine lv_aload_n hx hb dz_249 rfl (lv_at hl 3 rfl) ?_
  refine lv_aload_n hx hb dz_250 rfl (lv_at hl 1 rfl) ?_
  refine lv_iload hx hb dz_251 (lv_at hl 5 rfl) ?_
  refine lv_iconst (v := 1) hx hb dz_253 (by decide) ?_
  refine lv_iadd hx hb dz_254 ?_
  refine ow_topi (y := nI (6 * n + 1)) (nI_add (6 * n) 1) ?_
  refine va_sld hx hb hX hbl hbA hM.2.2.2.2.2 (vp_in_nI (n := 6 * n + 1) (N := L) (by omega) (by omega)) dz_255 ?_
  refine ow_topi (y := x1) ((congrArg xs (nI_clamp (by omega))).trans e1) ?_
  refine lv_aload_n hx hb dz_256 rfl (lv_at hl 1 rfl) ?_
  refine lv_iload hx hb dz_257 (lv_at hl 5 rfl) ?_
  refine lv_iconst (v := 2) hx hb dz_259 (by decide) ?_
  refine lv_iadd hx hb dz_260 ?_
  refine ow_topi (y := nI (6 * n + 2)) (nI_add (6 * n) 2) ?_
  refine va_sld hx hb hX hbl hbA hM.2.2.2.2.2 (vp_in_nI (n := 6 * n + 2) (N := L) (by omega) (by omega)) dz_261 ?_
  refine ow_topi (y := x2) ((congrArg xs (nI_clamp (by omega))).trans e2) ?_
  refine lv_aload_n hx hb dz_262 rfl (lv_at hl 1 rfl) ?_
  refine lv_iload hx hb dz_263 (lv_at hl 5 rfl) ?_
  refine lv_iconst (v := 3) hx hb dz_265 (by decide) ?_
  refine lv_iadd hx hb dz_266 ?_
  refine ow_topi (y := nI (6 * n + 3)) (nI_add (6 * n) 3) ?_
  refine va_sld hx hb hX hbl hbA hM.2.2.2.2.2 (vp_in_nI (n := 6 * n + 3) (N := L) (by omega) (by omega)) dz_267 ?_
  refine ow_topi (y := x3) ((congrArg xs (nI_clamp (by omega))).trans e3) ?_
  refine lv_aload_n hx hb dz_268 rfl (lv_at hl 1 rfl) ?_
  refine lv_iload hx hb dz_269 (lv_at hl 5 rfl) ?_
  refine lv_iconst (v := 4) hx hb dz_271 (by decide) ?_
  refine lv_iadd hx hb dz_272 ?_
  refine ow_topi (y := nI (6 * n + 4)) (nI_add (6 * n) 4) ?_
  refine va_sld hx hb hX hbl hbA hM.2.2.2.2.2 (vp_in_nI (n := 6 * n + 4) (N := L) (by omega) (by omega)) dz_273 ?_
  refine ow_topi (y := x4) ((congrArg xs (nI_clamp (by omega))).trans e4) ?_
  refine lv_aload_n hx hb dz_274 rfl (lv_at hl 1 rfl) ?_
  refine lv_iload hx hb dz_275 (lv_at hl 5 rfl) ?_
  refine lv_iconst (v := 5) hx hb dz_277 (by decide) ?_
  refine lv_iadd hx hb dz_278 ?_
  refine ow_topi (y := nI (6 * n + 5)) (nI_add (6 * n) 5) ?_
  refine va_sld hx hb hX hbl hbA hM.2.2.2.2.2 (vp_in_nI (n := 6 * n + 5) (N := L) (by omega) (by omega)) dz_279 ?_
  refine ow_topi (y := x5) ((congrArg xs (nI_clamp (by omega))).trans e5) ?_
  obtain ⟨v4, zm3, hcq, hq⟩ := tw_cl1 hq
  refine lx_refi hM (va_runV (As := [.int x1, .int x2, .int x3, .int x4, .int x5]) (rest := []) ⟨hx, hb, hml, hown, hts⟩ (km_X13_feed l D q5 w hM.2.2.2.1.1 K x1 x2 x3 x4 x5 zm zm3 v4 hcq) (cwV 5 hts (lx_gV (lx_all wM_good rfl) (lx_mem hM1 (hZ _ zq_4)) (hZ _ zq_5) (hZ _ zq_6) (hZ _ zq_7) (hZ _ zq_8) rfl rfl rfl rfl) rfl rfl rfl cd_X13_feed ⟨(Nat.le_of_ble_eq_true rfl), (Nat.le_of_ble_eq_true rfl)⟩) (lx_preM hG hM) rfl rfl hl.1 rfl (lv_room (Nat.le_of_ble_eq_true rfl)) dz_280 ⟨(by show _ ≤ 600002; omega), (by show _ ≤ 7302232; omega)⟩) (fun H locs hM => ?_)
  refine lv_istore (lv' := [(6, .int v4), (5, .int v2), (0, .ref b), (1, .ref (u 0)), (2, .ref (w 0)), (3, .ref (u 52001)), (4, .int (nI (6 * n)))]) hx hb dz_283 hl (by decide) rfl (fun ls hl => ?_)
  refine lv_aload_n hx hb dz_285 rfl (lv_at hl 4 rfl) ?_
  obtain ⟨v6, zm5, hcq, hq⟩ := tw_cl1 hq
  refine lx_refi hM (va_runV (As := []) (rest := []) ⟨hx, hb, hml, hown, hts⟩ (km_X13_thrown l D q5 w hM.2.2.2.1.1 K zm3 zm5 v6 hcq) (cwV 0 hts (lx_gV (lx_all wM_good rfl) (lx_mem hM1 (hZ _ zq_9)) (hZ _ zq_10) (hZ _ zq_11) (hZ _ zq_12) (hZ _ zq_8) rfl rfl rfl rfl) rfl rfl rfl cd_X13_thrown ⟨(Nat.le_of_ble_eq_true rfl), (Nat.le_of_ble_eq_true rfl)⟩) (lx_preM hG hM) rfl rfl hl.1 rfl (lv_room (Nat.le_of_ble_eq_true rfl)) dz_286 ⟨(by show _ ≤ 600002; omega), (by show _ ≤ 7302232; omega)⟩) (fun H locs hM => ?_)
  refine lv_iload hx hb dz_289 (lv_at hl 1 rfl) ?_
  refine lv_icmp_eq (tgt := 296) hx hb dz_291 (by decide) (fun hc9 => ?_) (fun hc9 => ?_)
  · have hq := tw_it hq hc9
    refine lv_iload hx hb dz_296 (lv_at hl 1 rfl) ?_
    refine lv_if_ne (tgt := 313) hx hb dz_298 (by decide) (fun hc9 => ?_) (fun hc9 => ?_)
    · have hq := tw_if hq hc9
      refine lv_goto (tgt := 2616) hx hb dz_313 (by decide) ?_
      exact kk _ _ H locs ls hM (lv_sub hl [2, 3, 4, 5, 6] rfl) hq
    · have hq := tw_it hq hc9
      refine lv_aload_n hx hb dz_301 rfl (lv_at hl 5 rfl) ?_
      refine lv_iconst (v := 0) hx hb dz_302 (by decide) ?_
      refine uw_lald (A := lx_A s) (H0 := s.heap) cX_ok hx hb hG.2.1 ⟨hM.1, hM.2.2.2.2.2⟩ cr_out hq dz_303 (fun v7 hq => ?_)
      refine lv_iload hx hb dz_304 (lv_at hl 0 rfl) ?_
      refine lv_i2l hx hb dz_306 rfl ?_
      refine W.lcmp hx hb dz_307 ?_
      refine lv_if_eq (tgt := 313) hx hb dz_308 (by decide) (fun hc9 => ?_) (fun hc9 => ?_)
      · have hq := tw_it hq hc9
        refine lv_goto (tgt := 2616) hx hb dz_313 (by decide) ?_
        exact kk _ _ H locs ls hM (lv_sub hl [2, 3, 4, 5, 6] rfl) hq
      · have hq := tw_if hq hc9
        refine lv_iconst (v := 0) hx hb dz_311 (by decide) ?_
        exact cw_no hq
  · have hq := tw_if hq hc9
    refine lv_iconst (v := 0) hx hb dz_294 (by decide) ?_
    exact cw_no hq
theorem dz_316 : decode cL_law 316 = .ok (.aload_n 1, 1) := by decide +kernel
theorem dz_317 : decode cL_law 317 = .ok (.aload_n 0, 1) := by decide +kernel
theorem dz_318 : decode cL_law 318 = .ok (.iload 4, 2) := by decide +kernel
theorem dz_320 : decode cL_law 320 = .ok (.iconst 1, 1) := by decide +kernel
theorem dz_321 : decode cL_law 321 = .ok (.iadd, 1) := by decide +kernel
theorem dz_322 : decode cL_law 322 = .ok (.iaload, 1) := by decide +kernel
theorem dz_323 : decode cL_law 323 = .ok (.invokestatic 140, 3) := by decide +kernel
theorem dz_326 : decode cL_law 326 = .ok (.istore 5, 2) := by decide +kernel
theorem dz_328 : decode cL_law 328 = .ok (.aload_n 2, 1) := by decide +kernel
theorem dz_329 : decode cL_law 329 = .ok (.aload_n 0, 1) := by decide +kernel
theorem dz_330 : decode cL_law 330 = .ok (.iload 4, 2) := by decide +kernel
theorem dz_332 : decode cL_law 332 = .ok (.iconst 1, 1) := by decide +kernel
theorem dz_333 : decode cL_law 333 = .ok (.iadd, 1) := by decide +kernel
theorem dz_334 : decode cL_law 334 = .ok (.iaload, 1) := by decide +kernel
theorem dz_335 : decode cL_law 335 = .ok (.invokevirtual 143, 3) := by decide +kernel
theorem dz_338 : decode cL_law 338 = .ok (.aload_n 2, 1) := by decide +kernel
theorem dz_339 : decode cL_law 339 = .ok (.invokevirtual 137, 3) := by decide +kernel
theorem dz_342 : decode cL_law 342 = .ok (.iload 5, 2) := by decide +kernel
theorem dz_344 : decode cL_law 344 = .ok (.if_icmp .eq 5, 3) := by decide +kernel
theorem dz_347 : decode cL_law 347 = .ok (.iconst 0, 1) := by decide +kernel
theorem dz_348 : decode cL_law 348 = .ok (.ireturn, 1) := by decide +kernel
theorem dz_349 : decode cL_law 349 = .ok (.goto 2267, 3) := by decide +kernel
def lst_end (vl : Nat → Nat) (K : Nat) (x1 : Int32) (x2 : Int32) (x3 : Int32) (x4 : Int32) (x5 : Int32) (zc zm : ow_MS) : Option ow_LwS :=
 cs1 (le_L_end vl K 0 x1 zc) fun v2 zc1 => cs0 (qe_X13_end K x1 zm) fun zm3 => cs1 (qe_X13_thrown K zm3) fun v5 zm4 => (if v5 = v2 then some (vl, zc1, zm4)
 else none)
set_option maxHeartbeats 4000000 in
set_option maxRecDepth 100000 in
theorem lxc_end {p : Program} {l : Launch} {e : Env} {s : State} {m : MethodId} {args : Array Value} {below : List Frame} {meth : Method} {c : Code} {b L K n : Nat} {xs : Nat → Int32} {D : va_G} {q : Nat → ClassId} {q5 : ow_Q5} {vl u w sa : Nat → Nat} {zc zm : ow_MS} {S1 : ow_LwS} {Ts : List Cond} {Q : State → Prop} {H : Heap} {locs : List Loc} {ls : Array Slot} {cells slots : Nat} (hx : p.tables.exec = Jvm.exec) (hb : c.code = cL_law) (hml : c.maxLocals = 8) (hown : s.vm.findClass RL = some m.cls) (hts : ∀ w ∈ Ts, w.before args s = true) (hX : va_X b L xs s s.heap) (hbl : b < s.heap.size) (hZ : ∀ w ∈ wZ, w ∈ Ts) (hL1 : ∀ w ∈ wLL, w ∈ Ts) (hC1 : ∀ w ∈ wC, w ∈ Ts) (hM1 : ∀ w ∈ wM, w ∈ Ts) (hG : lx_G l s D q q5 sa) (hLn : L ≤ 3072) (hn : 6 * n + 6 ≤ L) (hq : lst_end vl K (xs (6 * n + 1)) (xs (6 * n + 2)) (xs (6 * n + 3)) (xs (6 * n + 4)) (xs (6 * n + 5)) zc zm = some S1) (hM : lx_M D q q5 s vl u w zc zm H locs) (hl : lv_has ls 8 [(0, .ref b), (1, .ref (u 0)), (2, .ref (w 0)), (3, .ref (u 52001)), (4, .int (nI (6 * n)))]) (hc : cells + 1 ≤ 600002) (hs : slots + 6 ≤ 7302232) (kk : ∀ (zc1 zm1 : ow_MS) (H1 : Heap) (locs1 : List Loc) (ls1 : Array Slot), lx_M D q q5 s vl u w zc1 zm1 H1 locs1 → lv_has ls1 8 [(0, .ref b), (1, .ref (u 0)), (2, .ref (w 0)), (3, .ref (u 52001)), (4, .int (nI (6 * n)))] → some (vl, zc1, zm1) = some S1 → W p l e room_1 s m args below meth c H1 locs1 (cells + 1) (slots + 6) Q (F0 m 2616 ls1 [])) : W p l e room_1 s m args below meth c H locs cells slots Q (F0 m 316 ls []) := by
  have hbA : ¬ lx_A s b := Nat.not_le.mpr hbl
  generalize e1 : xs (6 * n + 1) = x1 at hq
  generalize e2 : xs (6 * n + 2) = x2 at hq
  generalize e3 : xs (6 * n + 3) = x3 at hq
  generalize e4 : xs (6 * n + 4) = x4 at hq
  generalize e5 : xs (6 * n + 5) = x5 at hq
  unfold lst_end at hq
  refine lv_aload_n hx hb dz_316 rfl (lv_at hl 1 rfl) ?_
  refine lv_aload_n hx hb dz_317 rfl (lv_at hl 0 rfl) ?_
  refine lv_iload hx hb dz_318 (lv_at hl 4 rfl) ?_
  refine lv_iconst (v := 1) hx hb dz_320 (by decide) ?_
  refine lv_iadd hx hb dz_321 ?_
  refine ow_topi (y := nI (6 * n + 1)) (nI_add (6 * n) 1) ?_
  refine va_sld hx hb hX hbl hbA hM.2.2.2.2.2 (vp_in_nI (n := 6 * n + 1) (N := L) (by omega) (by omega)) dz_322 ?_
  refine ow_topi (y := x1) ((congrArg xs (nI_clamp (by omega))).trans e1) ?_
  obtain ⟨v2, zc1, hcq, hq⟩ := tw_cl1 hq
  refine lx_wrap hM (vx_runSX (As := [.ref (u 0), .int x1]) (rest := []) ⟨hx, hb, hml, hown, hts⟩ (kl_L_end l D q vl u hM.2.2.1.1 hG.1 sa K 0 x1 (by unfold cw_X11 ci_X11; exact List.mem_singleton.mpr rfl) zc zc1 v2 hcq) (vx_cwSW 2 hts (lx_gS (lx_all wLL_good rfl) (lx_mem hL1 (hZ _ zq_13)) (hZ _ zq_14) (hZ _ zq_15) (hZ _ zq_3) rfl rfl rfl) rfl rfl rfl (by decide +kernel) ⟨(Nat.le_of_ble_eq_true rfl), (Nat.le_of_ble_eq_true rfl)⟩) (lx_preL hG hM) rfl rfl hl.1 rfl (lv_room (Nat.le_of_ble_eq_true rfl)) dz_323 ⟨(by show _ ≤ 600002; omega), (by show _ ≤ 7302232; omega)⟩) (fun H locs hM => ?_)
  refine lv_istore (lv' := [(5, .int v2), (0, .ref b), (1, .ref (u 0)), (2, .ref (w 0)), (3, .ref (u 52001)), (4, .int (nI (6 * n)))]) hx hb dz_326 hl (by decide) rfl (fun ls hl => ?_)
  refine lv_aload_n hx hb dz_328 rfl (lv_at hl 3 rfl) ?_
  refine lv_aload_n hx hb dz_329 rfl (lv_at hl 1 rfl) ?_
  refine lv_iload hx hb dz_330 (lv_at hl 5 rfl) ?_
  refine lv_iconst (v := 1) hx hb dz_332 (by decide) ?_
  refine lv_iadd hx hb dz_333 ?_
  refine ow_topi (y := nI (6 * n + 1)) (nI_add (6 * n) 1) ?_
  refine va_sld hx hb hX hbl hbA hM.2.2.2.2.2 (vp_in_nI (n := 6 * n + 1) (N := L) (by omega) (by omega)) dz_334 ?_
  refine ow_topi (y := x1) ((congrArg xs (nI_clamp (by omega))).trans e1) ?_
  obtain ⟨zm3, hcq, hq⟩ := tw_cl0 hq
  refine lx_refv hM (va_runV (As := [.int x1]) (rest := []) ⟨hx, hb, hml, hown, hts⟩ (km_X13_end l D q5 w hM.2.2.2.1.1 K x1 zm zm3 hcq) (cwV 1 hts (lx_gV (lx_all wM_good rfl) (lx_mem hM1 (hZ _ zq_16)) (hZ _ zq_17) (hZ _ zq_18) (hZ _ zq_19) (hZ _ zq_8) rfl rfl rfl rfl) rfl rfl rfl cd_X13_end ⟨(Nat.le_of_ble_eq_true rfl), (Nat.le_of_ble_eq_true rfl)⟩) (lx_preM hG hM) rfl rfl hl.1 rfl (lv_room (Nat.le_of_ble_eq_true rfl)) dz_335 ⟨(by show _ ≤ 600002; omega), (by show _ ≤ 7302232; omega)⟩) (fun H locs hM => ?_)
  refine lv_aload_n hx hb dz_338 rfl (lv_at hl 3 rfl) ?_
  obtain ⟨v5, zm4, hcq, hq⟩ := tw_cl1 hq
  refine lx_refi hM (va_runV (As := []) (rest := []) ⟨hx, hb, hml, hown, hts⟩ (km_X13_thrown l D q5 w hM.2.2.2.1.1 K zm3 zm4 v5 hcq) (cwV 0 hts (lx_gV (lx_all wM_good rfl) (lx_mem hM1 (hZ _ zq_9)) (hZ _ zq_10) (hZ _ zq_11) (hZ _ zq_12) (hZ _ zq_8) rfl rfl rfl rfl) rfl rfl rfl cd_X13_thrown ⟨(Nat.le_of_ble_eq_true rfl), (Nat.le_of_ble_eq_true rfl)⟩) (lx_preM hG hM) rfl rfl hl.1 rfl (lv_room (Nat.le_of_ble_eq_true rfl)) dz_339 ⟨(by show _ ≤ 600002; omega), (by show _ ≤ 7302232; omega)⟩) (fun H locs hM => ?_)
  refine lv_iload hx hb dz_342 (lv_at hl 0 rfl) ?_
  refine lv_icmp_eq (tgt := 349) hx hb dz_344 (by decide) (fun hc9 => ?_) (fun hc9 => ?_)
  · have hq := tw_it hq hc9
    refine lv_goto (tgt := 2616) hx hb dz_349 (by decide) ?_
    exact kk _ _ H locs ls hM (lv_sub hl [1, 2, 3, 4, 5] rfl) hq
  · have hq := tw_if hq hc9
    refine lv_iconst (v := 0) hx hb dz_347 (by decide) ?_
    exact cw_no hq
theorem dz_352 : decode cL_law 352 = .ok (.aload_n 1, 1) := by decide +kernel
theorem dz_353 : decode cL_law 353 = .ok (.aload_n 3, 1) := by decide +kernel
theorem dz_354 : decode cL_law 354 = .ok (.invokestatic 144, 3) := by decide +kernel
theorem dz_357 : decode cL_law 357 = .ok (.istore 5, 2) := by decide +kernel
theorem dz_359 : decode cL_law 359 = .ok (.aload_n 2, 1) := by decide +kernel
theorem dz_360 : decode cL_law 360 = .ok (.invokevirtual 147, 3) := by decide +kernel
theorem dz_363 : decode cL_law 363 = .ok (.istore 6, 2) := by decide +kernel
theorem dz_365 : decode cL_law 365 = .ok (.aload_n 2, 1) := by decide +kernel
theorem dz_366 : decode cL_law 366 = .ok (.invokevirtual 137, 3) := by decide +kernel
theorem dz_369 : decode cL_law 369 = .ok (.iload 5, 2) := by decide +kernel
theorem dz_371 : decode cL_law 371 = .ok (.if_icmp .eq 5, 3) := by decide +kernel
theorem dz_374 : decode cL_law 374 = .ok (.iconst 0, 1) := by decide +kernel
theorem dz_375 : decode cL_law 375 = .ok (.ireturn, 1) := by decide +kernel
theorem dz_376 : decode cL_law 376 = .ok (.iload 5, 2) := by decide +kernel
theorem dz_378 : decode cL_law 378 = .ok (.ifCond .ne 15, 3) := by decide +kernel
theorem dz_381 : decode cL_law 381 = .ok (.aload_n 3, 1) := by decide +kernel
theorem dz_382 : decode cL_law 382 = .ok (.iconst 0, 1) := by decide +kernel
theorem dz_383 : decode cL_law 383 = .ok (.laload, 1) := by decide +kernel
theorem dz_384 : decode cL_law 384 = .ok (.iload 6, 2) := by decide +kernel
theorem dz_386 : decode cL_law 386 = .ok (.i2l, 1) := by decide +kernel
theorem dz_387 : decode cL_law 387 = .ok (.lcmp, 1) := by decide +kernel
theorem dz_388 : decode cL_law 388 = .ok (.ifCond .eq 5, 3) := by decide +kernel
theorem dz_391 : decode cL_law 391 = .ok (.iconst 0, 1) := by decide +kernel
theorem dz_392 : decode cL_law 392 = .ok (.ireturn, 1) := by decide +kernel
theorem dz_393 : decode cL_law 393 = .ok (.goto 2223, 3) := by decide +kernel
def lst_diagram (vl : Nat → Nat) (K : Nat) (x1 : Int32) (x2 : Int32) (x3 : Int32) (x4 : Int32) (x5 : Int32) (zc zm : ow_MS) : Option ow_LwS :=
 cs1 (le_L_diagram vl K 0  zc) fun v2 zc1 => cs1 (qe_X13_diagram K zm) fun v4 zm3 => cs1 (qe_X13_thrown K zm3) fun v6 zm5 => (if v6 = v2 then (if v2 = 0 then crJ (cX vl) zc1 52001 0 fun v7 => (if (lg_cmp v7 v4.toInt64) = 0 then some (vl, zc1, zm5)
 else none)
 else some (vl, zc1, zm5))
 else none)
set_option maxHeartbeats 4000000 in
set_option maxRecDepth 100000 in
theorem lxc_diagram {p : Program} {l : Launch} {e : Env} {s : State} {m : MethodId} {args : Array Value} {below : List Frame} {meth : Method} {c : Code} {b L K n : Nat} {xs : Nat → Int32} {D : va_G} {q : Nat → ClassId} {q5 : ow_Q5} {vl u w sa : Nat → Nat} {zc zm : ow_MS} {S1 : ow_LwS} {Ts : List Cond} {Q : State → Prop} {H : Heap} {locs : List Loc} {ls : Array Slot} {cells slots : Nat} (hx : p.tables.exec = Jvm.exec) (hb : c.code = cL_law) (hml : c.maxLocals = 8) (hown : s.vm.findClass RL = some m.cls) (hts : ∀ w ∈ Ts, w.before args s = true) (hX : va_X b L xs s s.heap) (hbl : b < s.heap.size) (hZ : ∀ w ∈ wZ, w ∈ Ts) (hL1 : ∀ w ∈ wLL, w ∈ Ts) (hC1 : ∀ w ∈ wC, w ∈ Ts) (hM1 : ∀ w ∈ wM, w ∈ Ts) (hG : lx_G l s D q q5 sa) (hLn : L ≤ 3072) (hn : 6 * n + 6 ≤ L) (hq : lst_diagram vl K (xs (6 * n + 1)) (xs (6 * n + 2)) (xs (6 * n + 3)) (xs (6 * n + 4)) (xs (6 * n + 5)) zc zm = some S1) (hM : lx_M D q q5 s vl u w zc zm H locs) (hl : lv_has ls 8 [(0, .ref b), (1, .ref (u 0)), (2, .ref (w 0)), (3, .ref (u 52001)), (4, .int (nI (6 * n)))]) (hc : cells + 1 ≤ 600002) (hs : slots + 6 ≤ 7302232) (kk : ∀ (zc1 zm1 : ow_MS) (H1 : Heap) (locs1 : List Loc) (ls1 : Array Slot), lx_M D q q5 s vl u w zc1 zm1 H1 locs1 → lv_has ls1 8 [(0, .ref b), (1, .ref (u 0)), (2, .ref (w 0)), (3, .ref (u 52001)), (4, .int (nI (6 * n)))] → some (vl, zc1, zm1) = some S1 → W p l e room_1 s m args below meth c H1 locs1 (cells + 1) (slots + 6) Q (F0 m 2616 ls1 [])) : W p l e room_1 s m args below meth c H locs cells slots Q (F0 m 352 ls []) := by
  have hbA : ¬ lx_A s b := Nat.not_le.mpr hbl
  generalize e1 : xs (6 * n + 1) = x1 at hq
  generalize e2 : xs (6 * n + 2) = x2 at hq
  generalize e3 : xs (6 * n + 3) = x3 at hq
  generalize e4 : xs (6 * n + 4) = x4 at hq
  generalize e5 : xs (6 * n + 5) = x5 at hq
  unfold lst_diagram at hq
  refine lv_aload_n hx hb dz_352 rfl (lv_at hl 1 rfl) ?_
  refine lv_aload_n hx hb dz_353 rfl (lv_at hl 3 rfl) ?_
  obtain ⟨v2, zc1, hcq, hq⟩ := tw_cl1 hq
  refine lx_wrap hM (vx_runSX (As := [.ref (u 0), .ref (u 52001)]) (rest := []) ⟨hx, hb, hml, hown, hts⟩ (kl_L_diagram l D q vl u hM.2.2.1.1 hG.1 sa K 0  (by unfold cw_X11 ci_X11; exact List.mem_singleton.mpr rfl) zc zc1 v2 hcq) (vx_cwSW 2 hts (lx_gS (lx_all wLL_good rfl) (lx_mem hL1 (hZ _ zq_20)) (hZ _ zq_21) (hZ _ zq_22) (hZ _ zq_3) rfl rfl rfl) rfl rfl rfl (by decide +kernel) ⟨(Nat.le_of_ble_eq_true rfl), (Nat.le_of_ble_eq_true rfl)⟩) (lx_preL hG hM) rfl rfl hl.1 rfl (lv_room (Nat.le_of_ble_eq_true rfl)) dz_354 ⟨(by show _ ≤ 600002; omega), (by show _ ≤ 7302232; omega)⟩) (fun H locs hM => ?_)
  refine lv_istore (lv' := [(5, .int v2), (0, .ref b), (1, .ref (u 0)), (2, .ref (w 0)), (3, .ref (u 52001)), (4, .int (nI (6 * n)))]) hx hb dz_357 hl (by decide) rfl (fun ls hl => ?_)
  refine lv_aload_n hx hb dz_359 rfl (lv_at hl 3 rfl) ?_
  obtain ⟨v4, zm3, hcq, hq⟩ := tw_cl1 hq
  refine lx_refi hM (va_runV (As := []) (rest := []) ⟨hx, hb, hml, hown, hts⟩ (km_X13_diagram l D q5 w hM.2.2.2.1.1 K zm zm3 v4 hcq) (cwV 0 hts (lx_gV (lx_all wM_good rfl) (lx_mem hM1 (hZ _ zq_23)) (hZ _ zq_24) (hZ _ zq_25) (hZ _ zq_26) (hZ _ zq_8) rfl rfl rfl rfl) rfl rfl rfl cd_X13_diagram ⟨(Nat.le_of_ble_eq_true rfl), (Nat.le_of_ble_eq_true rfl)⟩) (lx_preM hG hM) rfl rfl hl.1 rfl (lv_room (Nat.le_of_ble_eq_true rfl)) dz_360 ⟨(by show _ ≤ 600002; omega), (by show _ ≤ 7302232; omega)⟩) (fun H locs hM => ?_)
  refine lv_istore (lv' := [(6, .int v4), (5, .int v2), (0, .ref b), (1, .ref (u 0)), (2, .ref (w 0)), (3, .ref (u 52001)), (4, .int (nI (6 * n)))]) hx hb dz_363 hl (by decide) rfl (fun ls hl => ?_)
  refine lv_aload_n hx hb dz_365 rfl (lv_at hl 4 rfl) ?_
  obtain ⟨v6, zm5, hcq, hq⟩ := tw_cl1 hq
  refine lx_refi hM (va_runV (As := []) (rest := []) ⟨hx, hb, hml, hown, hts⟩ (km_X13_thrown l D q5 w hM.2.2.2.1.1 K zm3 zm5 v6 hcq) (cwV 0 hts (lx_gV (lx_all wM_good rfl) (lx_mem hM1 (hZ _ zq_9)) (hZ _ zq_10) (hZ _ zq_11) (hZ _ zq_12) (hZ _ zq_8) rfl rfl rfl rfl) rfl rfl rfl cd_X13_thrown ⟨(Nat.le_of_ble_eq_true rfl), (Nat.le_of_ble_eq_true rfl)⟩) (lx_preM hG hM) rfl rfl hl.1 rfl (lv_room (Nat.le_of_ble_eq_true rfl)) dz_366 ⟨(by show _ ≤ 600002; omega), (by show _ ≤ 7302232; omega)⟩) (fun H locs hM => ?_)
  refine lv_iload hx hb dz_369 (lv_at hl 1 rfl) ?_
  refine lv_icmp_eq (tgt := 376) hx hb dz_371 (by decide) (fun hc9 => ?_) (fun hc9 => ?_)
  · have hq := tw_it hq hc9
    refine lv_iload hx hb dz_376 (lv_at hl 1 rfl) ?_
    refine lv_if_ne (tgt := 393) hx hb dz_378 (by decide) (fun hc9 => ?_) (fun hc9 => ?_)
    · have hq := tw_if hq hc9
      refine lv_goto (tgt := 2616) hx hb dz_393 (by decide) ?_
      exact kk _ _ H locs ls hM (lv_sub hl [2, 3, 4, 5, 6] rfl) hq
    · have hq := tw_it hq hc9
      refine lv_aload_n hx hb dz_381 rfl (lv_at hl 5 rfl) ?_
      refine lv_iconst (v := 0) hx hb dz_382 (by decide) ?_
      refine uw_lald (A := lx_A s) (H0 := s.heap) cX_ok hx hb hG.2.1 ⟨hM.1, hM.2.2.2.2.2⟩ cr_out hq dz_383 (fun v7 hq => ?_)
      refine lv_iload hx hb dz_384 (lv_at hl 0 rfl) ?_
      refine lv_i2l hx hb dz_386 rfl ?_
      refine W.lcmp hx hb dz_387 ?_
      refine lv_if_eq (tgt := 393) hx hb dz_388 (by decide) (fun hc9 => ?_) (fun hc9 => ?_)
      · have hq := tw_it hq hc9
        refine lv_goto (tgt := 2616) hx hb dz_393 (by decide) ?_
        exact kk _ _ H locs ls hM (lv_sub hl [2, 3, 4, 5, 6] rfl) hq
      · have hq := tw_if hq hc9
        refine lv_iconst (v := 0) hx hb dz_391 (by decide) ?_
        exact cw_no hq
  · have hq := tw_if hq hc9
    refine lv_iconst (v := 0) hx hb dz_374 (by decide) ?_
    exact cw_no hq
theorem dz_396 : decode cL_law 396 = .ok (.aload_n 1, 1) := by decide +kernel
theorem dz_397 : decode cL_law 397 = .ok (.aload_n 0, 1) := by decide +kernel
theorem dz_398 : decode cL_law 398 = .ok (.iload 4, 2) := by decide +kernel
theorem dz_400 : decode cL_law 400 = .ok (.iconst 1, 1) := by decide +kernel
theorem dz_401 : decode cL_law 401 = .ok (.iadd, 1) := by decide +kernel
theorem dz_402 : decode cL_law 402 = .ok (.iaload, 1) := by decide +kernel
theorem dz_403 : decode cL_law 403 = .ok (.aload_n 3, 1) := by decide +kernel
theorem dz_404 : decode cL_law 404 = .ok (.invokestatic 148, 3) := by decide +kernel
theorem dz_407 : decode cL_law 407 = .ok (.istore 5, 2) := by decide +kernel
theorem dz_409 : decode cL_law 409 = .ok (.aload_n 2, 1) := by decide +kernel
theorem dz_410 : decode cL_law 410 = .ok (.aload_n 0, 1) := by decide +kernel
theorem dz_411 : decode cL_law 411 = .ok (.iload 4, 2) := by decide +kernel
theorem dz_413 : decode cL_law 413 = .ok (.iconst 1, 1) := by decide +kernel
theorem dz_414 : decode cL_law 414 = .ok (.iadd, 1) := by decide +kernel
theorem dz_415 : decode cL_law 415 = .ok (.iaload, 1) := by decide +kernel
theorem dz_416 : decode cL_law 416 = .ok (.invokevirtual 151, 3) := by decide +kernel
theorem dz_419 : decode cL_law 419 = .ok (.istore 6, 2) := by decide +kernel
theorem dz_421 : decode cL_law 421 = .ok (.aload_n 2, 1) := by decide +kernel
theorem dz_422 : decode cL_law 422 = .ok (.invokevirtual 137, 3) := by decide +kernel
theorem dz_425 : decode cL_law 425 = .ok (.iload 5, 2) := by decide +kernel
theorem dz_427 : decode cL_law 427 = .ok (.if_icmp .eq 5, 3) := by decide +kernel
theorem dz_430 : decode cL_law 430 = .ok (.iconst 0, 1) := by decide +kernel
theorem dz_431 : decode cL_law 431 = .ok (.ireturn, 1) := by decide +kernel
theorem dz_432 : decode cL_law 432 = .ok (.iload 5, 2) := by decide +kernel
theorem dz_434 : decode cL_law 434 = .ok (.ifCond .ne 15, 3) := by decide +kernel
theorem dz_437 : decode cL_law 437 = .ok (.aload_n 3, 1) := by decide +kernel
theorem dz_438 : decode cL_law 438 = .ok (.iconst 0, 1) := by decide +kernel
theorem dz_439 : decode cL_law 439 = .ok (.laload, 1) := by decide +kernel
theorem dz_440 : decode cL_law 440 = .ok (.iload 6, 2) := by decide +kernel
theorem dz_442 : decode cL_law 442 = .ok (.i2l, 1) := by decide +kernel
theorem dz_443 : decode cL_law 443 = .ok (.lcmp, 1) := by decide +kernel
theorem dz_444 : decode cL_law 444 = .ok (.ifCond .eq 5, 3) := by decide +kernel
theorem dz_447 : decode cL_law 447 = .ok (.iconst 0, 1) := by decide +kernel
theorem dz_448 : decode cL_law 448 = .ok (.ireturn, 1) := by decide +kernel
theorem dz_449 : decode cL_law 449 = .ok (.goto 2167, 3) := by decide +kernel
def lst_braid (vl : Nat → Nat) (K : Nat) (x1 : Int32) (x2 : Int32) (x3 : Int32) (x4 : Int32) (x5 : Int32) (zc zm : ow_MS) : Option ow_LwS :=
 cs1 (le_L_braid vl K 0 x1 zc) fun v2 zc1 => cs1 (qe_X13_braid K x1 zm) fun v4 zm3 => cs1 (qe_X13_thrown K zm3) fun v6 zm5 => (if v6 = v2 then (if v2 = 0 then crJ (cX vl) zc1 52001 0 fun v7 => (if (lg_cmp v7 v4.toInt64) = 0 then some (vl, zc1, zm5)
 else none)
 else some (vl, zc1, zm5))
 else none)
set_option maxHeartbeats 4000000 in
set_option maxRecDepth 100000 in
theorem lxc_braid {p : Program} {l : Launch} {e : Env} {s : State} {m : MethodId} {args : Array Value} {below : List Frame} {meth : Method} {c : Code} {b L K n : Nat} {xs : Nat → Int32} {D : va_G} {q : Nat → ClassId} {q5 : ow_Q5} {vl u w sa : Nat → Nat} {zc zm : ow_MS} {S1 : ow_LwS} {Ts : List Cond} {Q : State → Prop} {H : Heap} {locs : List Loc} {ls : Array Slot} {cells slots : Nat} (hx : p.tables.exec = Jvm.exec) (hb : c.code = cL_law) (hml : c.maxLocals = 8) (hown : s.vm.findClass RL = some m.cls) (hts : ∀ w ∈ Ts, w.before args s = true) (hX : va_X b L xs s s.heap) (hbl : b < s.heap.size) (hZ : ∀ w ∈ wZ, w ∈ Ts) (hL1 : ∀ w ∈ wLL, w ∈ Ts) (hC1 : ∀ w ∈ wC, w ∈ Ts) (hM1 : ∀ w ∈ wM, w ∈ Ts) (hG : lx_G l s D q q5 sa) (hLn : L ≤ 3072) (hn : 6 * n + 6 ≤ L) (hq : lst_braid vl K (xs (6 * n + 1)) (xs (6 * n + 2)) (xs (6 * n + 3)) (xs (6 * n + 4)) (xs (6 * n + 5)) zc zm = some S1) (hM : lx_M D q q5 s vl u w zc zm H locs) (hl : lv_has ls 8 [(0, .ref b), (1, .ref (u 0)), (2, .ref (w 0)), (3, .ref (u 52001)), (4, .int (nI (6 * n)))]) (hc : cells + 2 ≤ 600002) (hs : slots + 12 ≤ 7302232) (kk : ∀ (zc1 zm1 : ow_MS) (H1 : Heap) (locs1 : List Loc) (ls1 : Array Slot), lx_M D q q5 s vl u w zc1 zm1 H1 locs1 → lv_has ls1 8 [(0, .ref b), (1, .ref (u 0)), (2, .ref (w 0)), (3, .ref (u 52001)), (4, .int (nI (6 * n)))] → some (vl, zc1, zm1) = some S1 → W p l e room_1 s m args below meth c H1 locs1 (cells + 2) (slots + 12) Q (F0 m 2616 ls1 [])) : W p l e room_1 s m args below meth c H locs cells slots Q (F0 m 396 ls []) := by
  have hbA : ¬ lx_A s b := Nat.not_le.mpr hbl
  generalize e1 : xs (6 * n + 1) = x1 at hq
  generalize e2 : xs (6 * n + 2) = x2 at hq
  generalize e3 : xs (6 * n + 3) = x3 at hq
  generalize e4 : xs (6 * n + 4) = x4 at hq
  generalize e5 : xs (6 * n + 5) = x5 at hq
  unfold lst_braid at hq
  refine lv_aload_n hx hb dz_396 rfl (lv_at hl 1 rfl) ?_
  refine lv_aload_n hx hb dz_397 rfl (lv_at hl 0 rfl) ?_
  refine lv_iload hx hb dz_398 (lv_at hl 4 rfl) ?_
  refine lv_iconst (v := 1) hx hb dz_400 (by decide) ?_
  refine lv_iadd hx hb dz_401 ?_
  refine ow_topi (y := nI (6 * n + 1)) (nI_add (6 * n) 1) ?_
  refine va_sld hx hb hX hbl hbA hM.2.2.2.2.2 (vp_in_nI (n := 6 * n + 1) (N := L) (by omega) (by omega)) dz_402 ?_
  refine ow_topi (y := x1) ((congrArg xs (nI_clamp (by omega))).trans e1) ?_
  refine lv_aload_n hx hb dz_403 rfl (lv_at hl 3 rfl) ?_
  obtain ⟨v2, zc1, hcq, hq⟩ := tw_cl1 hq
  refine lx_wrap hM (vx_runSX (As := [.ref (u 0), .int x1, .ref (u 52001)]) (rest := []) ⟨hx, hb, hml, hown, hts⟩ (kl_L_braid l D q vl u hM.2.2.1.1 hG.1 sa K 0 x1 (by unfold cw_X11 ci_X11; exact List.mem_singleton.mpr rfl) zc zc1 v2 hcq) (vx_cwSW 3 hts (lx_gS (lx_all wLL_good rfl) (lx_mem hL1 (hZ _ zq_27)) (hZ _ zq_28) (hZ _ zq_29) (hZ _ zq_3) rfl rfl rfl) rfl rfl rfl (by decide +kernel) ⟨(Nat.le_of_ble_eq_true rfl), (Nat.le_of_ble_eq_true rfl)⟩) (lx_preL hG hM) rfl rfl hl.1 rfl (lv_room (Nat.le_of_ble_eq_true rfl)) dz_404 ⟨(by show _ ≤ 600002; omega), (by show _ ≤ 7302232; omega)⟩) (fun H locs hM => ?_)
  refine lv_istore (lv' := [(5, .int v2), (0, .ref b), (1, .ref (u 0)), (2, .ref (w 0)), (3, .ref (u 52001)), (4, .int (nI (6 * n)))]) hx hb dz_407 hl (by decide) rfl (fun ls hl => ?_)
  refine lv_aload_n hx hb dz_409 rfl (lv_at hl 3 rfl) ?_
  refine lv_aload_n hx hb dz_410 rfl (lv_at hl 1 rfl) ?_
  refine lv_iload hx hb dz_411 (lv_at hl 5 rfl) ?_
  refine lv_iconst (v := 1) hx hb dz_413 (by decide) ?_
  refine lv_iadd hx hb dz_414 ?_
  refine ow_topi (y := nI (6 * n + 1)) (nI_add (6 * n) 1) ?_
  refine va_sld hx hb hX hbl hbA hM.2.2.2.2.2 (vp_in_nI (n := 6 * n + 1) (N := L) (by omega) (by omega)) dz_415 ?_
  refine ow_topi (y := x1) ((congrArg xs (nI_clamp (by omega))).trans e1) ?_
  obtain ⟨v4, zm3, hcq, hq⟩ := tw_cl1 hq
  refine lx_refi hM (va_runV (As := [.int x1]) (rest := []) ⟨hx, hb, hml, hown, hts⟩ (km_X13_braid l D q5 w hM.2.2.2.1.1 K x1 zm zm3 v4 hcq) (cwV 1 hts (lx_gV (lx_all wM_good rfl) (lx_mem hM1 (hZ _ zq_30)) (hZ _ zq_31) (hZ _ zq_32) (hZ _ zq_33) (hZ _ zq_8) rfl rfl rfl rfl) rfl rfl rfl cd_X13_braid ⟨(Nat.le_of_ble_eq_true rfl), (Nat.le_of_ble_eq_true rfl)⟩) (lx_preM hG hM) rfl rfl hl.1 rfl (lv_room (Nat.le_of_ble_eq_true rfl)) dz_416 ⟨(by show _ ≤ 600002; omega), (by show _ ≤ 7302232; omega)⟩) (fun H locs hM => ?_)
  refine lv_istore (lv' := [(6, .int v4), (5, .int v2), (0, .ref b), (1, .ref (u 0)), (2, .ref (w 0)), (3, .ref (u 52001)), (4, .int (nI (6 * n)))]) hx hb dz_419 hl (by decide) rfl (fun ls hl => ?_)
  refine lv_aload_n hx hb dz_421 rfl (lv_at hl 4 rfl) ?_
  obtain ⟨v6, zm5, hcq, hq⟩ := tw_cl1 hq
  refine lx_refi hM (va_runV (As := []) (rest := []) ⟨hx, hb, hml, hown, hts⟩ (km_X13_thrown l D q5 w hM.2.2.2.1.1 K zm3 zm5 v6 hcq) (cwV 0 hts (lx_gV (lx_all wM_good rfl) (lx_mem hM1 (hZ _ zq_9)) (hZ _ zq_10) (hZ _ zq_11) (hZ _ zq_12) (hZ _ zq_8) rfl rfl rfl rfl) rfl rfl rfl cd_X13_thrown ⟨(Nat.le_of_ble_eq_true rfl), (Nat.le_of_ble_eq_true rfl)⟩) (lx_preM hG hM) rfl rfl hl.1 rfl (lv_room (Nat.le_of_ble_eq_true rfl)) dz_422 ⟨(by show _ ≤ 600002; omega), (by show _ ≤ 7302232; omega)⟩) (fun H locs hM => ?_)
  refine lv_iload hx hb dz_425 (lv_at hl 1 rfl) ?_
  refine lv_icmp_eq (tgt := 432) hx hb dz_427 (by decide) (fun hc9 => ?_) (fun hc9 => ?_)
  · have hq := tw_it hq hc9
    refine lv_iload hx hb dz_432 (lv_at hl 1 rfl) ?_
    refine lv_if_ne (tgt := 449) hx hb dz_434 (by decide) (fun hc9 => ?_) (fun hc9 => ?_)
    · have hq := tw_if hq hc9
      refine lv_goto (tgt := 2616) hx hb dz_449 (by decide) ?_
      exact kk _ _ H locs ls hM (lv_sub hl [2, 3, 4, 5, 6] rfl) hq
    · have hq := tw_it hq hc9
      refine lv_aload_n hx hb dz_437 rfl (lv_at hl 5 rfl) ?_
      refine lv_iconst (v := 0) hx hb dz_438 (by decide) ?_
      refine uw_lald (A := lx_A s) (H0 := s.heap) cX_ok hx hb hG.2.1 ⟨hM.1, hM.2.2.2.2.2⟩ cr_out hq dz_439 (fun v7 hq => ?_)
      refine lv_iload hx hb dz_440 (lv_at hl 0 rfl) ?_
      refine lv_i2l hx hb dz_442 rfl ?_
      refine W.lcmp hx hb dz_443 ?_
      refine lv_if_eq (tgt := 449) hx hb dz_444 (by decide) (fun hc9 => ?_) (fun hc9 => ?_)
      · have hq := tw_it hq hc9
        refine lv_goto (tgt := 2616) hx hb dz_449 (by decide) ?_
        exact kk _ _ H locs ls hM (lv_sub hl [2, 3, 4, 5, 6] rfl) hq
      · have hq := tw_if hq hc9
        refine lv_iconst (v := 0) hx hb dz_447 (by decide) ?_
        exact cw_no hq
  · have hq := tw_if hq hc9
    refine lv_iconst (v := 0) hx hb dz_430 (by decide) ?_
    exact cw_no hq
theorem dz_452 : decode cL_law 452 = .ok (.aload_n 1, 1) := by decide +kernel
theorem dz_453 : decode cL_law 453 = .ok (.aload_n 0, 1) := by decide +kernel
theorem dz_454 : decode cL_law 454 = .ok (.iload 4, 2) := by decide +kernel
theorem dz_456 : decode cL_law 456 = .ok (.iconst 1, 1) := by decide +kernel
theorem dz_457 : decode cL_law 457 = .ok (.iadd, 1) := by decide +kernel
theorem dz_458 : decode cL_law 458 = .ok (.iaload, 1) := by decide +kernel
theorem dz_459 : decode cL_law 459 = .ok (.invokevirtual 152, 3) := by decide +kernel
theorem dz_462 : decode cL_law 462 = .ok (.aload_n 2, 1) := by decide +kernel
theorem dz_463 : decode cL_law 463 = .ok (.aload_n 0, 1) := by decide +kernel
theorem dz_464 : decode cL_law 464 = .ok (.iload 4, 2) := by decide +kernel
theorem dz_466 : decode cL_law 466 = .ok (.iconst 1, 1) := by decide +kernel
theorem dz_467 : decode cL_law 467 = .ok (.iadd, 1) := by decide +kernel
theorem dz_468 : decode cL_law 468 = .ok (.iaload, 1) := by decide +kernel
theorem dz_469 : decode cL_law 469 = .ok (.invokevirtual 156, 3) := by decide +kernel
theorem dz_472 : decode cL_law 472 = .ok (.if_icmp .eq 2144, 3) := by decide +kernel
theorem dz_475 : decode cL_law 475 = .ok (.iconst 0, 1) := by decide +kernel
theorem dz_476 : decode cL_law 476 = .ok (.ireturn, 1) := by decide +kernel
def lst_drop (vl : Nat → Nat) (K : Nat) (x1 : Int32) (x2 : Int32) (x3 : Int32) (x4 : Int32) (x5 : Int32) (zc zm : ow_MS) : Option ow_LwS :=
 cs1 (ce_X11_drop vl K 0 x1 zc) fun v2 zc1 => cs1 (qe_X13_drop K x1 zm) fun v4 zm3 => (if v2 = v4 then some (vl, zc1, zm3)
 else none)
set_option maxHeartbeats 4000000 in
set_option maxRecDepth 100000 in
theorem lxc_drop {p : Program} {l : Launch} {e : Env} {s : State} {m : MethodId} {args : Array Value} {below : List Frame} {meth : Method} {c : Code} {b L K n : Nat} {xs : Nat → Int32} {D : va_G} {q : Nat → ClassId} {q5 : ow_Q5} {vl u w sa : Nat → Nat} {zc zm : ow_MS} {S1 : ow_LwS} {Ts : List Cond} {Q : State → Prop} {H : Heap} {locs : List Loc} {ls : Array Slot} {cells slots : Nat} (hx : p.tables.exec = Jvm.exec) (hb : c.code = cL_law) (hml : c.maxLocals = 8) (hown : s.vm.findClass RL = some m.cls) (hts : ∀ w ∈ Ts, w.before args s = true) (hX : va_X b L xs s s.heap) (hbl : b < s.heap.size) (hZ : ∀ w ∈ wZ, w ∈ Ts) (hL1 : ∀ w ∈ wLL, w ∈ Ts) (hC1 : ∀ w ∈ wC, w ∈ Ts) (hM1 : ∀ w ∈ wM, w ∈ Ts) (hG : lx_G l s D q q5 sa) (hLn : L ≤ 3072) (hn : 6 * n + 6 ≤ L) (hq : lst_drop vl K (xs (6 * n + 1)) (xs (6 * n + 2)) (xs (6 * n + 3)) (xs (6 * n + 4)) (xs (6 * n + 5)) zc zm = some S1) (hM : lx_M D q q5 s vl u w zc zm H locs) (hl : lv_has ls 8 [(0, .ref b), (1, .ref (u 0)), (2, .ref (w 0)), (3, .ref (u 52001)), (4, .int (nI (6 * n)))]) (hc : cells + 0 ≤ 600002) (hs : slots + 0 ≤ 7302232) (kk : ∀ (zc1 zm1 : ow_MS) (H1 : Heap) (locs1 : List Loc) (ls1 : Array Slot), lx_M D q q5 s vl u w zc1 zm1 H1 locs1 → lv_has ls1 8 [(0, .ref b), (1, .ref (u 0)), (2, .ref (w 0)), (3, .ref (u 52001)), (4, .int (nI (6 * n)))] → some (vl, zc1, zm1) = some S1 → W p l e room_1 s m args below meth c H1 locs1 (cells + 0) (slots + 0) Q (F0 m 2616 ls1 [])) : W p l e room_1 s m args below meth c H locs cells slots Q (F0 m 452 ls []) := by
  have hbA : ¬ lx_A s b := Nat.not_le.mpr hbl
  generalize e1 : xs (6 * n + 1) = x1 at hq
  generalize e2 : xs (6 * n + 2) = x2 at hq
  generalize e3 : xs (6 * n + 3) = x3 at hq
  generalize e4 : xs (6 * n + 4) = x4 at hq
  generalize e5 : xs (6 * n + 5) = x5 at hq
  unfold lst_drop at hq
  refine lv_aload_n hx hb dz_452 rfl (lv_at hl 1 rfl) ?_
  refine lv_aload_n hx hb dz_453 rfl (lv_at hl 0 rfl) ?_
  refine lv_iload hx hb dz_454 (lv_at hl 4 rfl) ?_
  refine lv_iconst (v := 1) hx hb dz_456 (by decide) ?_
  refine lv_iadd hx hb dz_457 ?_
  refine ow_topi (y := nI (6 * n + 1)) (nI_add (6 * n) 1) ?_
  refine va_sld hx hb hX hbl hbA hM.2.2.2.2.2 (vp_in_nI (n := 6 * n + 1) (N := L) (by omega) (by omega)) dz_458 ?_
  refine ow_topi (y := x1) ((congrArg xs (nI_clamp (by omega))).trans e1) ?_
  obtain ⟨v2, zc1, hcq, hq⟩ := tw_cl1 hq
  refine lx_cls hM (va_runV (As := [.int x1]) (rest := []) ⟨hx, hb, hml, hown, hts⟩ (kc_X11_drop l D q vl u hM.2.2.1.1 K 0 x1 (by unfold cw_X11 ci_X11; exact List.mem_singleton.mpr rfl) zc zc1 v2 hcq) (cwV 1 hts (lx_gV (lx_all wC_good rfl) (lx_mem hC1 (hZ _ zq_34)) (hZ _ zq_35) (hZ _ zq_36) (hZ _ zq_37) (hZ _ zq_38) rfl rfl rfl rfl) rfl rfl rfl cdd_X11_drop ⟨(Nat.le_of_ble_eq_true rfl), (Nat.le_of_ble_eq_true rfl)⟩) (lx_preC hG hM) rfl rfl hl.1 rfl (lv_room (Nat.le_of_ble_eq_true rfl)) dz_459 ⟨(by show _ ≤ 600002; omega), (by show _ ≤ 7302232; omega)⟩) (fun H locs hM => ?_)
  refine lv_aload_n hx hb dz_462 rfl (lv_at hl 2 rfl) ?_
  refine lv_aload_n hx hb dz_463 rfl (lv_at hl 0 rfl) ?_
  refine lv_iload hx hb dz_464 (lv_at hl 4 rfl) ?_
  refine lv_iconst (v := 1) hx hb dz_466 (by decide) ?_
  refine lv_iadd hx hb dz_467 ?_
  refine ow_topi (y := nI (6 * n + 1)) (nI_add (6 * n) 1) ?_
  refine va_sld hx hb hX hbl hbA hM.2.2.2.2.2 (vp_in_nI (n := 6 * n + 1) (N := L) (by omega) (by omega)) dz_468 ?_
  refine ow_topi (y := x1) ((congrArg xs (nI_clamp (by omega))).trans e1) ?_
  obtain ⟨v4, zm3, hcq, hq⟩ := tw_cl1 hq
  refine lx_refi hM (va_runV (As := [.int x1]) (rest := [.int v2]) ⟨hx, hb, hml, hown, hts⟩ (km_X13_drop l D q5 w hM.2.2.2.1.1 K x1 zm zm3 v4 hcq) (cwV 1 hts (lx_gV (lx_all wM_good rfl) (lx_mem hM1 (hZ _ zq_39)) (hZ _ zq_40) (hZ _ zq_41) (hZ _ zq_42) (hZ _ zq_8) rfl rfl rfl rfl) rfl rfl rfl cd_X13_drop ⟨(Nat.le_of_ble_eq_true rfl), (Nat.le_of_ble_eq_true rfl)⟩) (lx_preM hG hM) rfl rfl hl.1 rfl (lv_room (Nat.le_of_ble_eq_true rfl)) dz_469 ⟨(by show _ ≤ 600002; omega), (by show _ ≤ 7302232; omega)⟩) (fun H locs hM => ?_)
  refine lv_icmp_eq (tgt := 2616) hx hb dz_472 (by decide) (fun hc9 => ?_) (fun hc9 => ?_)
  · have hq := tw_it hq hc9
    exact kk _ _ H locs ls hM (lv_sub hl [0, 1, 2, 3, 4] rfl) hq
  · have hq := tw_if hq hc9
    refine lv_iconst (v := 0) hx hb dz_475 (by decide) ?_
    exact cw_no hq
theorem dz_477 : decode cL_law 477 = .ok (.aload_n 1, 1) := by decide +kernel
theorem dz_478 : decode cL_law 478 = .ok (.aload_n 0, 1) := by decide +kernel
theorem dz_479 : decode cL_law 479 = .ok (.iload 4, 2) := by decide +kernel
theorem dz_481 : decode cL_law 481 = .ok (.iconst 1, 1) := by decide +kernel
theorem dz_482 : decode cL_law 482 = .ok (.iadd, 1) := by decide +kernel
theorem dz_483 : decode cL_law 483 = .ok (.iaload, 1) := by decide +kernel
theorem dz_484 : decode cL_law 484 = .ok (.invokevirtual 157, 3) := by decide +kernel
theorem dz_487 : decode cL_law 487 = .ok (.aload_n 2, 1) := by decide +kernel
theorem dz_488 : decode cL_law 488 = .ok (.aload_n 0, 1) := by decide +kernel
theorem dz_489 : decode cL_law 489 = .ok (.iload 4, 2) := by decide +kernel
theorem dz_491 : decode cL_law 491 = .ok (.iconst 1, 1) := by decide +kernel
theorem dz_492 : decode cL_law 492 = .ok (.iadd, 1) := by decide +kernel
theorem dz_493 : decode cL_law 493 = .ok (.iaload, 1) := by decide +kernel
theorem dz_494 : decode cL_law 494 = .ok (.invokevirtual 160, 3) := by decide +kernel
theorem dz_497 : decode cL_law 497 = .ok (.if_icmp .eq 2119, 3) := by decide +kernel
theorem dz_500 : decode cL_law 500 = .ok (.iconst 0, 1) := by decide +kernel
theorem dz_501 : decode cL_law 501 = .ok (.ireturn, 1) := by decide +kernel
def lst_dropBraid (vl : Nat → Nat) (K : Nat) (x1 : Int32) (x2 : Int32) (x3 : Int32) (x4 : Int32) (x5 : Int32) (zc zm : ow_MS) : Option ow_LwS :=
 cs1 (ce_X11_dropBraid vl K 0 x1 zc) fun v2 zc1 => cs1 (qe_X13_dropBraid K x1 zm) fun v4 zm3 => (if v2 = v4 then some (vl, zc1, zm3)
 else none)
set_option maxHeartbeats 4000000 in
set_option maxRecDepth 100000 in
theorem lxc_dropBraid {p : Program} {l : Launch} {e : Env} {s : State} {m : MethodId} {args : Array Value} {below : List Frame} {meth : Method} {c : Code} {b L K n : Nat} {xs : Nat → Int32} {D : va_G} {q : Nat → ClassId} {q5 : ow_Q5} {vl u w sa : Nat → Nat} {zc zm : ow_MS} {S1 : ow_LwS} {Ts : List Cond} {Q : State → Prop} {H : Heap} {locs : List Loc} {ls : Array Slot} {cells slots : Nat} (hx : p.tables.exec = Jvm.exec) (hb : c.code = cL_law) (hml : c.maxLocals = 8) (hown : s.vm.findClass RL = some m.cls) (hts : ∀ w ∈ Ts, w.before args s = true) (hX : va_X b L xs s s.heap) (hbl : b < s.heap.size) (hZ : ∀ w ∈ wZ, w ∈ Ts) (hL1 : ∀ w ∈ wLL, w ∈ Ts) (hC1 : ∀ w ∈ wC, w ∈ Ts) (hM1 : ∀ w ∈ wM, w ∈ Ts) (hG : lx_G l s D q q5 sa) (hLn : L ≤ 3072) (hn : 6 * n + 6 ≤ L) (hq : lst_dropBraid vl K (xs (6 * n + 1)) (xs (6 * n + 2)) (xs (6 * n + 3)) (xs (6 * n + 4)) (xs (6 * n + 5)) zc zm = some S1) (hM : lx_M D q q5 s vl u w zc zm H locs) (hl : lv_has ls 8 [(0, .ref b), (1, .ref (u 0)), (2, .ref (w 0)), (3, .ref (u 52001)), (4, .int (nI (6 * n)))]) (hc : cells + 0 ≤ 600002) (hs : slots + 0 ≤ 7302232) (kk : ∀ (zc1 zm1 : ow_MS) (H1 : Heap) (locs1 : List Loc) (ls1 : Array Slot), lx_M D q q5 s vl u w zc1 zm1 H1 locs1 → lv_has ls1 8 [(0, .ref b), (1, .ref (u 0)), (2, .ref (w 0)), (3, .ref (u 52001)), (4, .int (nI (6 * n)))] → some (vl, zc1, zm1) = some S1 → W p l e room_1 s m args below meth c H1 locs1 (cells + 0) (slots + 0) Q (F0 m 2616 ls1 [])) : W p l e room_1 s m args below meth c H locs cells slots Q (F0 m 477 ls []) := by
  have hbA : ¬ lx_A s b := Nat.not_le.mpr hbl
  generalize e1 : xs (6 * n + 1) = x1 at hq
  generalize e2 : xs (6 * n + 2) = x2 at hq
  generalize e3 : xs (6 * n + 3) = x3 at hq
  generalize e4 : xs (6 * n + 4) = x4 at hq
  generalize e5 : xs (6 * n + 5) = x5 at hq
  unfold lst_dropBraid at hq
  refine lv_aload_n hx hb dz_477 rfl (lv_at hl 1 rfl) ?_
  refine lv_aload_n hx hb dz_478 rfl (lv_at hl 0 rfl) ?_
  refine lv_iload hx hb dz_479 (lv_at hl 4 rfl) ?_
  refine lv_iconst (v := 1) hx hb dz_481 (by decide) ?_
  refine lv_iadd hx hb dz_482 ?_
  refine ow_topi (y := nI (6 * n + 1)) (nI_add (6 * n) 1) ?_
  refine va_sld hx hb hX hbl hbA hM.2.2.2.2.2 (vp_in_nI (n := 6 * n + 1) (N := L) (by omega) (by omega)) dz_483 ?_
  refine ow_topi (y := x1) ((congrArg xs (nI_clamp (by omega))).trans e1) ?_
  obtain ⟨v2, zc1, hcq, hq⟩ := tw_cl1 hq
  refine lx_cls hM (va_runV (As := [.int x1]) (rest := []) ⟨hx, hb, hml, hown, hts⟩ (kc_X11_dropBraid l D q vl u hM.2.2.1.1 K 0 x1 (by unfold cw_X11 ci_X11; exact List.mem_singleton.mpr rfl) zc zc1 v2 hcq) (cwV 1 hts (lx_gV (lx_all wC_good rfl) (lx_mem hC1 (hZ _ zq_43)) (hZ _ zq_44) (hZ _ zq_45) (hZ _ zq_46) (hZ _ zq_38) rfl rfl rfl rfl) rfl rfl rfl cdd_X11_dropBraid ⟨(Nat.le_of_ble_eq_true rfl), (Nat.le_of_ble_eq_true rfl)⟩) (lx_preC hG hM) rfl rfl hl.1 rfl (lv_room (Nat.le_of_ble_eq_true rfl)) dz_484 ⟨(by show _ ≤ 600002; omega), (by show _ ≤ 7302232; omega)⟩) (fun H locs hM => ?_)
  refine lv_aload_n hx hb dz_487 rfl (lv_at hl 2 rfl) ?_
  refine lv_aload_n hx hb dz_488 rfl (lv_at hl 0 rfl) ?_
  refine lv_iload hx hb dz_489 (lv_at hl 4 rfl) ?_
  refine lv_iconst (v := 1) hx hb dz_491 (by decide) ?_
  refine lv_iadd hx hb dz_492 ?_
  refine ow_topi (y := nI (6 * n + 1)) (nI_add (6 * n) 1) ?_
  refine va_sld hx hb hX hbl hbA hM.2.2.2.2.2 (vp_in_nI (n := 6 * n + 1) (N := L) (by omega) (by omega)) dz_493 ?_
  refine ow_topi (y := x1) ((congrArg xs (nI_clamp (by omega))).trans e1) ?_
  obtain ⟨v4, zm3, hcq, hq⟩ := tw_cl1 hq
  refine lx_refi hM (va_runV (As := [.int x1]) (rest := [.int v2]) ⟨hx, hb, hml, hown, hts⟩ (km_X13_dropBraid l D q5 w hM.2.2.2.1.1 K x1 zm zm3 v4 hcq) (cwV 1 hts (lx_gV (lx_all wM_good rfl) (lx_mem hM1 (hZ _ zq_47)) (hZ _ zq_48) (hZ _ zq_49) (hZ _ zq_50) (hZ _ zq_8) rfl rfl rfl rfl) rfl rfl rfl cd_X13_dropBraid ⟨(Nat.le_of_ble_eq_true rfl), (Nat.le_of_ble_eq_true rfl)⟩) (lx_preM hG hM) rfl rfl hl.1 rfl (lv_room (Nat.le_of_ble_eq_true rfl)) dz_494 ⟨(by show _ ≤ 600002; omega), (by show _ ≤ 7302232; omega)⟩) (fun H locs hM => ?_)
  refine lv_icmp_eq (tgt := 2616) hx hb dz_497 (by decide) (fun hc9 => ?_) (fun hc9 => ?_)
  · have hq := tw_it hq hc9
    exact kk _ _ H locs ls hM (lv_sub hl [0, 1, 2, 3, 4] rfl) hq
  · have hq := tw_if hq hc9
    refine lv_iconst (v := 0) hx hb dz_500 (by decide) ?_
    exact cw_no hq
theorem dz_502 : decode cL_law 502 = .ok (.aload_n 1, 1) := by decide +kernel
theorem dz_503 : decode cL_law 503 = .ok (.aload_n 0, 1) := by decide +kernel
theorem dz_504 : decode cL_law 504 = .ok (.iload 4, 2) := by decide +kernel
theorem dz_506 : decode cL_law 506 = .ok (.iconst 1, 1) := by decide +kernel
theorem dz_507 : decode cL_law 507 = .ok (.iadd, 1) := by decide +kernel
theorem dz_508 : decode cL_law 508 = .ok (.iaload, 1) := by decide +kernel
theorem dz_509 : decode cL_law 509 = .ok (.aload_n 0, 1) := by decide +kernel
theorem dz_510 : decode cL_law 510 = .ok (.iload 4, 2) := by decide +kernel
theorem dz_512 : decode cL_law 512 = .ok (.iconst 2, 1) := by decide +kernel
theorem dz_513 : decode cL_law 513 = .ok (.iadd, 1) := by decide +kernel
theorem dz_514 : decode cL_law 514 = .ok (.iaload, 1) := by decide +kernel
theorem dz_515 : decode cL_law 515 = .ok (.aload_n 3, 1) := by decide +kernel
theorem dz_516 : decode cL_law 516 = .ok (.invokestatic 161, 3) := by decide +kernel
theorem dz_519 : decode cL_law 519 = .ok (.istore 5, 2) := by decide +kernel
theorem dz_521 : decode cL_law 521 = .ok (.aload_n 2, 1) := by decide +kernel
theorem dz_522 : decode cL_law 522 = .ok (.aload_n 0, 1) := by decide +kernel
theorem dz_523 : decode cL_law 523 = .ok (.iload 4, 2) := by decide +kernel
theorem dz_525 : decode cL_law 525 = .ok (.iconst 1, 1) := by decide +kernel
theorem dz_526 : decode cL_law 526 = .ok (.iadd, 1) := by decide +kernel
theorem dz_527 : decode cL_law 527 = .ok (.iaload, 1) := by decide +kernel
theorem dz_528 : decode cL_law 528 = .ok (.aload_n 0, 1) := by decide +kernel
theorem dz_529 : decode cL_law 529 = .ok (.iload 4, 2) := by decide +kernel
theorem dz_531 : decode cL_law 531 = .ok (.iconst 2, 1) := by decide +kernel
theorem dz_532 : decode cL_law 532 = .ok (.iadd, 1) := by decide +kernel
theorem dz_533 : decode cL_law 533 = .ok (.iaload, 1) := by decide +kernel
theorem dz_534 : decode cL_law 534 = .ok (.invokevirtual 164, 3) := by decide +kernel
theorem dz_537 : decode cL_law 537 = .ok (.istore 6, 2) := by decide +kernel
theorem dz_539 : decode cL_law 539 = .ok (.aload_n 2, 1) := by decide +kernel
theorem dz_540 : decode cL_law 540 = .ok (.invokevirtual 137, 3) := by decide +kernel
theorem dz_543 : decode cL_law 543 = .ok (.iload 5, 2) := by decide +kernel
theorem dz_545 : decode cL_law 545 = .ok (.if_icmp .eq 5, 3) := by decide +kernel
theorem dz_548 : decode cL_law 548 = .ok (.iconst 0, 1) := by decide +kernel
theorem dz_549 : decode cL_law 549 = .ok (.ireturn, 1) := by decide +kernel
theorem dz_550 : decode cL_law 550 = .ok (.iload 5, 2) := by decide +kernel
theorem dz_552 : decode cL_law 552 = .ok (.ifCond .ne 15, 3) := by decide +kernel
theorem dz_555 : decode cL_law 555 = .ok (.aload_n 3, 1) := by decide +kernel
theorem dz_556 : decode cL_law 556 = .ok (.iconst 0, 1) := by decide +kernel
theorem dz_557 : decode cL_law 557 = .ok (.laload, 1) := by decide +kernel
theorem dz_558 : decode cL_law 558 = .ok (.iload 6, 2) := by decide +kernel
theorem dz_560 : decode cL_law 560 = .ok (.i2l, 1) := by decide +kernel
theorem dz_561 : decode cL_law 561 = .ok (.lcmp, 1) := by decide +kernel
theorem dz_562 : decode cL_law 562 = .ok (.ifCond .eq 5, 3) := by decide +kernel
theorem dz_565 : decode cL_law 565 = .ok (.iconst 0, 1) := by decide +kernel
theorem dz_566 : decode cL_law 566 = .ok (.ireturn, 1) := by decide +kernel
theorem dz_567 : decode cL_law 567 = .ok (.goto 2049, 3) := by decide +kernel
def lst_figure (vl : Nat → Nat) (K : Nat) (x1 : Int32) (x2 : Int32) (x3 : Int32) (x4 : Int32) (x5 : Int32) (zc zm : ow_MS) : Option ow_LwS :=
 cs1 (le_L_figure vl K 0 x1 x2 zc) fun v2 zc1 => cs1 (qe_X13_figure K x1 x2 zm) fun v4 zm3 => cs1 (qe_X13_thrown K zm3) fun v6 zm5 => (if v6 = v2 then (if v2 = 0 then crJ (cX vl) zc1 52001 0 fun v7 => (if (lg_cmp v7 v4.toInt64) = 0 then some (vl, zc1, zm5)
 else none)
 else some (vl, zc1, zm5))
 else none)
set_option maxHeartbeats 4000000 in
set_option maxRecDepth 100000 in
theorem lxc_figure {p : Program} {l : Launch} {e : Env} {s : State} {m : MethodId} {args : Array Value} {below : List Frame} {meth : Method} {c : Code} {b L K n : Nat} {xs : Nat → Int32} {D : va_G} {q : Nat → ClassId} {q5 : ow_Q5} {vl u w sa : Nat → Nat} {zc zm : ow_MS} {S1 : ow_LwS} {Ts : List Cond} {Q : State → Prop} {H : Heap} {locs : List Loc} {ls : Array Slot} {cells slots : Nat} (hx : p.tables.exec = Jvm.exec) (hb : c.code = cL_law) (hml : c.maxLocals = 8) (hown : s.vm.findClass RL = some m.cls) (hts : ∀ w ∈ Ts, w.before args s = true) (hX : va_X b L xs s s.heap) (hbl : b < s.heap.size) (hZ : ∀ w ∈ wZ, w ∈ Ts) (hL1 : ∀ w ∈ wLL, w ∈ Ts) (hC1 : ∀ w ∈ wC, w ∈ Ts) (hM1 : ∀ w ∈ wM, w ∈ Ts) (hG : lx_G l s D q q5 sa) (hLn : L ≤ 3072) (hn : 6 * n + 6 ≤ L) (hq : lst_figure vl K (xs (6 * n + 1)) (xs (6 * n + 2)) (xs (6 * n + 3)) (xs (6 * n + 4)) (xs (6 * n + 5)) zc zm = some S1) (hM : lx_M D q q5 s vl u w zc zm H locs) (hl : lv_has ls 8 [(0, .ref b), (1, .ref (u 0)), (2, .ref (w 0)), (3, .ref (u 52001)), (4, .int (nI (6 * n)))]) (hc : cells + 2 ≤ 600002) (hs : slots + 12 ≤ 7302232) (kk : ∀ (zc1 zm1 : ow_MS) (H1 : Heap) (locs1 : List Loc) (ls1 : Array Slot), lx_M D q q5 s vl u w zc1 zm1 H1 locs1 → lv_has ls1 8 [(0, .ref b), (1, .ref (u 0)), (2, .ref (w 0)), (3, .ref (u 52001)), (4, .int (nI (6 * n)))] → some (vl, zc1, zm1) = some S1 → W p l e room_1 s m args below meth c H1 locs1 (cells + 2) (slots + 12) Q (F0 m 2616 ls1 [])) : W p l e room_1 s m args below meth c H locs cells slots Q (F0 m 502 ls []) := by
  have hbA : ¬ lx_A s b := Nat.not_le.mpr hbl
  generalize e1 : xs (6 * n + 1) = x1 at hq
  generalize e2 : xs (6 * n + 2) = x2 at hq
  generalize e3 : xs (6 * n + 3) = x3 at hq
  generalize e4 : xs (6 * n + 4) = x4 at hq
  generalize e5 : xs (6 * n + 5) = x5 at hq
  unfold lst_figure at hq
  refine lv_aload_n hx hb dz_502 rfl (lv_at hl 1 rfl) ?_
  refine lv_aload_n hx hb dz_503 rfl (lv_at hl 0 rfl) ?_
  refine lv_iload hx hb dz_504 (lv_at hl 4 rfl) ?_
  refine lv_iconst (v := 1) hx hb dz_506 (by decide) ?_
  refine lv_iadd hx hb dz_507 ?_
  refine ow_topi (y := nI (6 * n + 1)) (nI_add (6 * n) 1) ?_
  refine va_sld hx hb hX hbl hbA hM.2.2.2.2.2 (vp_in_nI (n := 6 * n + 1) (N := L) (by omega) (by omega)) dz_508 ?_
  refine ow_topi (y := x1) ((congrArg xs (nI_clamp (by omega))).trans e1) ?_
  refine lv_aload_n hx hb dz_509 rfl (lv_at hl 0 rfl) ?_
  refine lv_iload hx hb dz_510 (lv_at hl 4 rfl) ?_
  refine lv_iconst (v := 2) hx hb dz_512 (by decide) ?_
  refine lv_iadd hx hb dz_513 ?_
  refine ow_topi (y := nI (6 * n + 2)) (nI_add (6 * n) 2) ?_
  refine va_sld hx hb hX hbl hbA hM.2.2.2.2.2 (vp_in_nI (n := 6 * n + 2) (N := L) (by omega) (by omega)) dz_514 ?_
  refine ow_topi (y := x2) ((congrArg xs (nI_clamp (by omega))).trans e2) ?_
  refine lv_aload_n hx hb dz_515 rfl (lv_at hl 3 rfl) ?_
  obtain ⟨v2, zc1, hcq, hq⟩ := tw_cl1 hq
  refine lx_wrap hM (vx_runSX (As := [.ref (u 0), .int x1, .int x2, .ref (u 52001)]) (rest := []) ⟨hx, hb, hml, hown, hts⟩ (kl_L_figure l D q vl u hM.2.2.1.1 hG.1 sa K 0 x1 x2 (by unfold cw_X11 ci_X11; exact List.mem_singleton.mpr rfl) zc zc1 v2 hcq) (vx_cwSW 4 hts (lx_gS (lx_all wLL_good rfl) (lx_mem hL1 (hZ _ zq_51)) (hZ _ zq_52) (hZ _ zq_53) (hZ _ zq_3) rfl rfl rfl) rfl rfl rfl (by decide +kernel) ⟨(Nat.le_of_ble_eq_true rfl), (Nat.le_of_ble_eq_true rfl)⟩) (lx_preL hG hM) rfl rfl hl.1 rfl (lv_room (Nat.le_of_ble_eq_true rfl)) dz_516 ⟨(by show _ ≤ 600002; omega), (by show _ ≤ 7302232; omega)⟩) (fun H locs hM => ?_)
  refine lv_istore (lv' := [(5, .int v2), (0, .ref b), (1, .ref (u 0)), (2, .ref (w 0)), (3, .ref (u 52001)), (4, .int (nI (6 * n)))]) hx hb dz_519 hl (by decide) rfl (fun ls hl => ?_)
  refine lv_aload_n hx hb dz_521 rfl (lv_at hl 3 rfl) ?_
  refine lv_aload_n hx hb dz_522 rfl (lv_at hl 1 rfl) ?_
  refine lv_iload hx hb dz_523 (lv_at hl 5 rfl) ?_
  refine lv_iconst (v := 1) hx hb dz_525 (by decide) ?_
  refine lv_iadd hx hb dz_526 ?_
  refine ow_topi (y := nI (6 * n + 1)) (nI_add (6 * n) 1) ?_
  refine va_sld hx hb hX hbl hbA hM.2.2.2.2.2 (vp_in_nI (n := 6 * n + 1) (N := L) (by omega) (by omega)) dz_527 ?_
  refine ow_topi (y := x1) ((congrArg xs (nI_clamp (by omega))).trans e1) ?_
  refine lv_aload_n hx hb dz_528 rfl (lv_at hl 1 rfl) ?_
  refine lv_iload hx hb dz_529 (lv_at hl 5 rfl) ?_
  refine lv_iconst (v := 2) hx hb dz_531 (by decide) ?_
  refine lv_iadd hx hb dz_532 ?_
  refine ow_topi (y := nI (6 * n + 2)) (nI_add (6 * n) 2) ?_
  refine va_sld hx hb hX hbl hbA hM.2.2.2.2.2 (vp_in_nI (n := 6 * n + 2) (N := L) (by omega) (by omega)) dz_533 ?_
  refine ow_topi (y := x2) ((congrArg xs (nI_clamp (by omega))).trans e2) ?_
  obtain ⟨v4, zm3, hcq, hq⟩ := tw_cl1 hq
  refine lx_refi hM (va_runV (As := [.int x1, .int x2]) (rest := []) ⟨hx, hb, hml, hown, hts⟩ (km_X13_figure l D q5 w hM.2.2.2.1.1 K x1 x2 zm zm3 v4 hcq) (cwV 2 hts (lx_gV (lx_all wM_good rfl) (lx_mem hM1 (hZ _ zq_54)) (hZ _ zq_55) (hZ _ zq_56) (hZ _ zq_57) (hZ _ zq_8) rfl rfl rfl rfl) rfl rfl rfl cd_X13_figure ⟨(Nat.le_of_ble_eq_true rfl), (Nat.le_of_ble_eq_true rfl)⟩) (lx_preM hG hM) rfl rfl hl.1 rfl (lv_room (Nat.le_of_ble_eq_true rfl)) dz_534 ⟨(by show _ ≤ 600002; omega), (by show _ ≤ 7302232; omega)⟩) (fun H locs hM => ?_)
  refine lv_istore (lv' := [(6, .int v4), (5, .int v2), (0, .ref b), (1, .ref (u 0)), (2, .ref (w 0)), (3, .ref (u 52001)), (4, .int (nI (6 * n)))]) hx hb dz_537 hl (by decide) rfl (fun ls hl => ?_)
  refine lv_aload_n hx hb dz_539 rfl (lv_at hl 4 rfl) ?_
  obtain ⟨v6, zm5, hcq, hq⟩ := tw_cl1 hq
  refine lx_refi hM (va_runV (As := []) (rest := []) ⟨hx, hb, hml, hown, hts⟩ (km_X13_thrown l D q5 w hM.2.2.2.1.1 K zm3 zm5 v6 hcq) (cwV 0 hts (lx_gV (lx_all wM_good rfl) (lx_mem hM1 (hZ _ zq_9)) (hZ _ zq_10) (hZ _ zq_11) (hZ _ zq_12) (hZ _ zq_8) rfl rfl rfl rfl) rfl rfl rfl cd_X13_thrown ⟨(Nat.le_of_ble_eq_true rfl), (Nat.le_of_ble_eq_true rfl)⟩) (lx_preM hG hM) rfl rfl hl.1 rfl (lv_room (Nat.le_of_ble_eq_true rfl)) dz_540 ⟨(by show _ ≤ 600002; omega), (by show _ ≤ 7302232; omega)⟩) (fun H locs hM => ?_)
  refine lv_iload hx hb dz_543 (lv_at hl 1 rfl) ?_
  refine lv_icmp_eq (tgt := 550) hx hb dz_545 (by decide) (fun hc9 => ?_) (fun hc9 => ?_)
  · have hq := tw_it hq hc9
    refine lv_iload hx hb dz_550 (lv_at hl 1 rfl) ?_
    refine lv_if_ne (tgt := 567) hx hb dz_552 (by decide) (fun hc9 => ?_) (fun hc9 => ?_)
    · have hq := tw_if hq hc9
      refine lv_goto (tgt := 2616) hx hb dz_567 (by decide) ?_
      exact kk _ _ H locs ls hM (lv_sub hl [2, 3, 4, 5, 6] rfl) hq
    · have hq := tw_it hq hc9
      refine lv_aload_n hx hb dz_555 rfl (lv_at hl 5 rfl) ?_
      refine lv_iconst (v := 0) hx hb dz_556 (by decide) ?_
      refine uw_lald (A := lx_A s) (H0 := s.heap) cX_ok hx hb hG.2.1 ⟨hM.1, hM.2.2.2.2.2⟩ cr_out hq dz_557 (fun v7 hq => ?_)
      refine lv_iload hx hb dz_558 (lv_at hl 0 rfl) ?_
      refine lv_i2l hx hb dz_560 rfl ?_
      refine W.lcmp hx hb dz_561 ?_
      refine lv_if_eq (tgt := 567) hx hb dz_562 (by decide) (fun hc9 => ?_) (fun hc9 => ?_)
      · have hq := tw_it hq hc9
        refine lv_goto (tgt := 2616) hx hb dz_567 (by decide) ?_
        exact kk _ _ H locs ls hM (lv_sub hl [2, 3, 4, 5, 6] rfl) hq
      · have hq := tw_if hq hc9
        refine lv_iconst (v := 0) hx hb dz_565 (by decide) ?_
        exact cw_no hq
  · have hq := tw_if hq hc9
    refine lv_iconst (v := 0) hx hb dz_548 (by decide) ?_
    exact cw_no hq
theorem dz_570 : decode cL_law 570 = .ok (.aload_n 1, 1) := by decide +kernel
theorem dz_571 : decode cL_law 571 = .ok (.aload_n 0, 1) := by decide +kernel
theorem dz_572 : decode cL_law 572 = .ok (.iload 4, 2) := by decide +kernel
theorem dz_574 : decode cL_law 574 = .ok (.iconst 1, 1) := by decide +kernel
theorem dz_575 : decode cL_law 575 = .ok (.iadd, 1) := by decide +kernel
theorem dz_576 : decode cL_law 576 = .ok (.iaload, 1) := by decide +kernel
theorem dz_577 : decode cL_law 577 = .ok (.aload_n 0, 1) := by decide +kernel
theorem dz_578 : decode cL_law 578 = .ok (.iload 4, 2) := by decide +kernel
theorem dz_580 : decode cL_law 580 = .ok (.iconst 2, 1) := by decide +kernel
theorem dz_581 : decode cL_law 581 = .ok (.iadd, 1) := by decide +kernel
theorem dz_582 : decode cL_law 582 = .ok (.iaload, 1) := by decide +kernel
theorem dz_583 : decode cL_law 583 = .ok (.aload_n 0, 1) := by decide +kernel
theorem dz_584 : decode cL_law 584 = .ok (.iload 4, 2) := by decide +kernel
theorem dz_586 : decode cL_law 586 = .ok (.iconst 3, 1) := by decide +kernel
theorem dz_587 : decode cL_law 587 = .ok (.iadd, 1) := by decide +kernel
theorem dz_588 : decode cL_law 588 = .ok (.iaload, 1) := by decide +kernel
theorem dz_589 : decode cL_law 589 = .ok (.aload_n 3, 1) := by decide +kernel
theorem dz_590 : decode cL_law 590 = .ok (.invokestatic 165, 3) := by decide +kernel
theorem dz_593 : decode cL_law 593 = .ok (.istore 5, 2) := by decide +kernel
theorem dz_595 : decode cL_law 595 = .ok (.aload_n 2, 1) := by decide +kernel
theorem dz_596 : decode cL_law 596 = .ok (.aload_n 0, 1) := by decide +kernel
theorem dz_597 : decode cL_law 597 = .ok (.iload 4, 2) := by decide +kernel
theorem dz_599 : decode cL_law 599 = .ok (.iconst 1, 1) := by decide +kernel
theorem dz_600 : decode cL_law 600 = .ok (.iadd, 1) := by decide +kernel
theorem dz_601 : decode cL_law 601 = .ok (.iaload, 1) := by decide +kernel
theorem dz_602 : decode cL_law 602 = .ok (.aload_n 0, 1) := by decide +kernel
theorem dz_603 : decode cL_law 603 = .ok (.iload 4, 2) := by decide +kernel
theorem dz_605 : decode cL_law 605 = .ok (.iconst 2, 1) := by decide +kernel
theorem dz_606 : decode cL_law 606 = .ok (.iadd, 1) := by decide +kernel
theorem dz_607 : decode cL_law 607 = .ok (.iaload, 1) := by decide +kernel
theorem dz_608 : decode cL_law 608 = .ok (.aload_n 0, 1) := by decide +kernel
theorem dz_609 : decode cL_law 609 = .ok (.iload 4, 2) := by decide +kernel
theorem dz_611 : decode cL_law 611 = .ok (.iconst 3, 1) := by decide +kernel
theorem dz_612 : decode cL_law 612 = .ok (.iadd, 1) := by decide +kernel
theorem dz_613 : decode cL_law 613 = .ok (.iaload, 1) := by decide +kernel
theorem dz_614 : decode cL_law 614 = .ok (.invokevirtual 168, 3) := by decide +kernel
theorem dz_617 : decode cL_law 617 = .ok (.istore 6, 2) := by decide +kernel
theorem dz_619 : decode cL_law 619 = .ok (.aload_n 2, 1) := by decide +kernel
theorem dz_620 : decode cL_law 620 = .ok (.invokevirtual 137, 3) := by decide +kernel
theorem dz_623 : decode cL_law 623 = .ok (.iload 5, 2) := by decide +kernel
theorem dz_625 : decode cL_law 625 = .ok (.if_icmp .eq 5, 3) := by decide +kernel
theorem dz_628 : decode cL_law 628 = .ok (.iconst 0, 1) := by decide +kernel
theorem dz_629 : decode cL_law 629 = .ok (.ireturn, 1) := by decide +kernel
theorem dz_630 : decode cL_law 630 = .ok (.iload 5, 2) := by decide +kernel
theorem dz_632 : decode cL_law 632 = .ok (.ifCond .ne 15, 3) := by decide +kernel
theorem dz_635 : decode cL_law 635 = .ok (.aload_n 3, 1) := by decide +kernel
theorem dz_636 : decode cL_law 636 = .ok (.iconst 0, 1) := by decide +kernel
theorem dz_637 : decode cL_law 637 = .ok (.laload, 1) := by decide +kernel
theorem dz_638 : decode cL_law 638 = .ok (.iload 6, 2) := by decide +kernel
theorem dz_640 : decode cL_law 640 = .ok (.i2l, 1) := by decide +kernel
theorem dz_641 : decode cL_law 641 = .ok (.lcmp, 1) := by decide +kernel
theorem dz_642 : decode cL_law 642 = .ok (.ifCond .eq 5, 3) := by decide +kernel
theorem dz_645 : decode cL_law 645 = .ok (.iconst 0, 1) := by decide +kernel
theorem dz_646 : decode cL_law 646 = .ok (.ireturn, 1) := by decide +kernel
theorem dz_647 : decode cL_law 647 = .ok (.goto 1969, 3) := by decide +kernel
def lst_visit (vl : Nat → Nat) (K : Nat) (x1 : Int32) (x2 : Int32) (x3 : Int32) (x4 : Int32) (x5 : Int32) (zc zm : ow_MS) : Option ow_LwS :=
 cs1 (le_L_visit vl K 0 x1 x2 x3 zc) fun v2 zc1 => cs1 (qe_X13_visit K x1 x2 x3 zm) fun v4 zm3 => cs1 (qe_X13_thrown K zm3) fun v6 zm5 => (if v6 = v2 then (if v2 = 0 then crJ (cX vl) zc1 52001 0 fun v7 => (if (lg_cmp v7 v4.toInt64) = 0 then some (vl, zc1, zm5)
 else none)
 else some (vl, zc1, zm5))
 else none)
set_option maxHeartbeats 4000000 in
set_option maxRecDepth 100000 in
theorem lxc_visit {p : Program} {l : Launch} {e : Env} {s : State} {m : MethodId} {args : Array Value} {below : List Frame} {meth : Method} {c : Code} {b L K n : Nat} {xs : Nat → Int32} {D : va_G} {q : Nat → ClassId} {q5 : ow_Q5} {vl u w sa : Nat → Nat} {zc zm : ow_MS} {S1 : ow_LwS} {Ts : List Cond} {Q : State → Prop} {H : Heap} {locs : List Loc} {ls : Array Slot} {cells slots : Nat} (hx : p.tables.exec = Jvm.exec) (hb : c.code = cL_law) (hml : c.maxLocals = 8) (hown : s.vm.findClass RL = some m.cls) (hts : ∀ w ∈ Ts, w.before args s = true) (hX : va_X b L xs s s.heap) (hbl : b < s.heap.size) (hZ : ∀ w ∈ wZ, w ∈ Ts) (hL1 : ∀ w ∈ wLL, w ∈ Ts) (hC1 : ∀ w ∈ wC, w ∈ Ts) (hM1 : ∀ w ∈ wM, w ∈ Ts) (hG : lx_G l s D q q5 sa) (hLn : L ≤ 3072) (hn : 6 * n + 6 ≤ L) (hq : lst_visit vl K (xs (6 * n + 1)) (xs (6 * n + 2)) (xs (6 * n + 3)) (xs (6 * n + 4)) (xs (6 * n + 5)) zc zm = some S1) (hM : lx_M D q q5 s vl u w zc zm H locs) (hl : lv_has ls 8 [(0, .ref b), (1, .ref (u 0)), (2, .ref (w 0)), (3, .ref (u 52001)), (4, .int (nI (6 * n)))]) (hc : cells + 2 ≤ 600002) (hs : slots + 12 ≤ 7302232) (kk : ∀ (zc1 zm1 : ow_MS) (H1 : Heap) (locs1 : List Loc) (ls1 : Array Slot), lx_M D q q5 s vl u w zc1 zm1 H1 locs1 → lv_has ls1 8 [(0, .ref b), (1, .ref (u 0)), (2, .ref (w 0)), (3, .ref (u 52001)), (4, .int (nI (6 * n)))] → some (vl, zc1, zm1) = some S1 → W p l e room_1 s m args below meth c H1 locs1 (cells + 2) (slots + 12) Q (F0 m 2616 ls1 [])) : W p l e room_1 s m args below meth c H locs cells slots Q (F0 m 570 ls []) := by
  have hbA : ¬ lx_A s b := Nat.not_le.mpr hbl
  generalize e1 : xs (6 * n + 1) = x1 at hq
  generalize e2 : xs (6 * n + 2) = x2 at hq
  generalize e3 : xs (6 * n + 3) = x3 at hq
  generalize e4 : xs (6 * n + 4) = x4 at hq
  generalize e5 : xs (6 * n + 5) = x5 at hq
  unfold lst_visit at hq
  refine lv_aload_n hx hb dz_570 rfl (lv_at hl 1 rfl) ?_
  refine lv_aload_n hx hb dz_571 rfl (lv_at hl 0 rfl) ?_
  refine lv_iload hx hb dz_572 (lv_at hl 4 rfl) ?_
  refine lv_iconst (v := 1) hx hb dz_574 (by decide) ?_
  refine lv_iadd hx hb dz_575 ?_
  refine ow_topi (y := nI (6 * n + 1)) (nI_add (6 * n) 1) ?_
  refine va_sld hx hb hX hbl hbA hM.2.2.2.2.2 (vp_in_nI (n := 6 * n + 1) (N := L) (by omega) (by omega)) dz_576 ?_
  refine ow_topi (y := x1) ((congrArg xs (nI_clamp (by omega))).trans e1) ?_
  refine lv_aload_n hx hb dz_577 rfl (lv_at hl 0 rfl) ?_
  refine lv_iload hx hb dz_578 (lv_at hl 4 rfl) ?_
  refine lv_iconst (v := 2) hx hb dz_580 (by decide) ?_
  refine lv_iadd hx hb dz_581 ?_
  refine ow_topi (y := nI (6 * n + 2)) (nI_add (6 * n) 2) ?_
  refine va_sld hx hb hX hbl hbA hM.2.2.2.2.2 (vp_in_nI (n := 6 * n + 2) (N := L) (by omega) (by omega)) dz_582 ?_
  refine ow_topi (y := x2) ((congrArg xs (nI_clamp (by omega))).trans e2) ?_
  refine lv_aload_n hx hb dz_583 rfl (lv_at hl 0 rfl) ?_
  refine lv_iload hx hb dz_584 (lv_at hl 4 rfl) ?_
  refine lv_iconst (v := 3) hx hb dz_586 (by decide) ?_
  refine lv_iadd hx hb dz_587 ?_
  refine ow_topi (y := nI (6 * n + 3)) (nI_add (6 * n) 3) ?_
  refine va_sld hx hb hX hbl hbA hM.2.2.2.2.2 (vp_in_nI (n := 6 * n + 3) (N := L) (by omega) (by omega)) dz_588 ?_
  refine ow_topi (y := x3) ((congrArg xs (nI_clamp (by omega))).trans e3) ?_
  refine lv_aload_n hx hb dz_589 rfl (lv_at hl 3 rfl) ?_
  obtain ⟨v2, zc1, hcq, hq⟩ := tw_cl1 hq
  refine lx_wrap hM (vx_runSX (As := [.ref (u 0), .int x1, .int x2, .int x3, .ref (u 52001)]) (rest := []) ⟨hx, hb, hml, hown, hts⟩ (kl_L_visit l D q vl u hM.2.2.1.1 hG.1 sa K 0 x1 x2 x3 (by unfold cw_X11 ci_X11; exact List.mem_singleton.mpr rfl) zc zc1 v2 hcq) (vx_cwSW 5 hts (lx_gS (lx_all wLL_good rfl) (lx_mem hL1 (hZ _ zq_58)) (hZ _ zq_59) (hZ _ zq_60) (hZ _ zq_3) rfl rfl rfl) rfl rfl rfl (by decide +kernel) ⟨(Nat.le_of_ble_eq_true rfl), (Nat.le_of_ble_eq_true rfl)⟩) (lx_preL hG hM) rfl rfl hl.1 rfl (lv_room (Nat.le_of_ble_eq_true rfl)) dz_590 ⟨(by show _ ≤ 600002; omega), (by show _ ≤ 7302232; omega)⟩) (fun H locs hM => ?_)
  refine lv_istore (lv' := [(5, .int v2), (0, .ref b), (1, .ref (u 0)), (2, .ref (w 0)), (3, .ref (u 52001)), (4, .int (nI (6 * n)))]) hx hb dz_593 hl (by decide) rfl (fun ls hl => ?_)
  refine lv_aload_n hx hb dz_595 rfl (lv_at hl 3 rfl) ?_
  refine lv_aload_n hx hb dz_596 rfl (lv_at hl 1 rfl) ?_
  refine lv_iload hx hb dz_597 (lv_at hl 5 rfl) ?_
  refine lv_iconst (v := 1) hx hb dz_599 (by decide) ?_
  refine lv_iadd hx hb dz_600 ?_
  refine ow_topi (y := nI (6 * n + 1)) (nI_add (6 * n) 1) ?_
  refine va_sld hx hb hX hbl hbA hM.2.2.2.2.2 (vp_in_nI (n := 6 * n + 1) (N := L) (by omega) (by omega)) dz_601 ?_
  refine ow_topi (y := x1) ((congrArg xs (nI_clamp (by omega))).trans e1) ?_
  refine lv_aload_n hx hb dz_602 rfl (lv_at hl 1 rfl) ?_
  refine lv_iload hx hb dz_603 (lv_at hl 5 rfl) ?_
  refine lv_iconst (v := 2) hx hb dz_605 (by decide) ?_
  refine lv_iadd hx hb dz_606 ?_
  refine ow_topi (y := nI (6 * n + 2)) (nI_add (6 * n) 2) ?_
  refine va_sld hx hb hX hbl hbA hM.2.2.2.2.2 (vp_in_nI (n := 6 * n + 2) (N := L) (by omega) (by omega)) dz_607 ?_
  refine ow_topi (y := x2) ((congrArg xs (nI_clamp (by omega))).trans e2) ?_
  refine lv_aload_n hx hb dz_608 rfl (lv_at hl 1 rfl) ?_
  refine lv_iload hx hb dz_609 (lv_at hl 5 rfl) ?_
  refine lv_iconst (v := 3) hx hb dz_611 (by decide) ?_
  refine lv_iadd hx hb dz_612 ?_
  refine ow_topi (y := nI (6 * n + 3)) (nI_add (6 * n) 3) ?_
  refine va_sld hx hb hX hbl hbA hM.2.2.2.2.2 (vp_in_nI (n := 6 * n + 3) (N := L) (by omega) (by omega)) dz_613 ?_
  refine ow_topi (y := x3) ((congrArg xs (nI_clamp (by omega))).trans e3) ?_
  obtain ⟨v4, zm3, hcq, hq⟩ := tw_cl1 hq
  refine lx_refi hM (va_runV (As := [.int x1, .int x2, .int x3]) (rest := []) ⟨hx, hb, hml, hown, hts⟩ (km_X13_visit l D q5 w hM.2.2.2.1.1 K x1 x2 x3 zm zm3 v4 hcq) (cwV 3 hts (lx_gV (lx_all wM_good rfl) (lx_mem hM1 (hZ _ zq_61)) (hZ _ zq_62) (hZ _ zq_63) (hZ _ zq_64) (hZ _ zq_8) rfl rfl rfl rfl) rfl rfl rfl cd_X13_visit ⟨(Nat.le_of_ble_eq_true rfl), (Nat.le_of_ble_eq_true rfl)⟩) (lx_preM hG hM) rfl rfl hl.1 rfl (lv_room (Nat.le_of_ble_eq_true rfl)) dz_614 ⟨(by show _ ≤ 600002; omega), (by show _ ≤ 7302232; omega)⟩) (fun H locs hM => ?_)
  refine lv_istore (lv' := [(6, .int v4), (5, .int v2), (0, .ref b), (1, .ref (u 0)), (2, .ref (w 0)), (3, .ref (u 52001)), (4, .int (nI (6 * n)))]) hx hb dz_617 hl (by decide) rfl (fun ls hl => ?_)
  refine lv_aload_n hx hb dz_619 rfl (lv_at hl 4 rfl) ?_
  obtain ⟨v6, zm5, hcq, hq⟩ := tw_cl1 hq
  refine lx_refi hM (va_runV (As := []) (rest := []) ⟨hx, hb, hml, hown, hts⟩ (km_X13_thrown l D q5 w hM.2.2.2.1.1 K zm3 zm5 v6 hcq) (cwV 0 hts (lx_gV (lx_all wM_good rfl) (lx_mem hM1 (hZ _ zq_9)) (hZ _ zq_10) (hZ _ zq_11) (hZ _ zq_12) (hZ _ zq_8) rfl rfl rfl rfl) rfl rfl rfl cd_X13_thrown ⟨(Nat.le_of_ble_eq_true rfl), (Nat.le_of_ble_eq_true rfl)⟩) (lx_preM hG hM) rfl rfl hl.1 rfl (lv_room (Nat.le_of_ble_eq_true rfl)) dz_620 ⟨(by show _ ≤ 600002; omega), (by show _ ≤ 7302232; omega)⟩) (fun H locs hM => ?_)
  refine lv_iload hx hb dz_623 (lv_at hl 1 rfl) ?_
  refine lv_icmp_eq (tgt := 630) hx hb dz_625 (by decide) (fun hc9 => ?_) (fun hc9 => ?_)
  · have hq := tw_it hq hc9
    refine lv_iload hx hb dz_630 (lv_at hl 1 rfl) ?_
    refine lv_if_ne (tgt := 647) hx hb dz_632 (by decide) (fun hc9 => ?_) (fun hc9 => ?_)
    · have hq := tw_if hq hc9
      refine lv_goto (tgt := 2616) hx hb dz_647 (by decide) ?_
      exact kk _ _ H locs ls hM (lv_sub hl [2, 3, 4, 5, 6] rfl) hq
    · have hq := tw_it hq hc9
      refine lv_aload_n hx hb dz_635 rfl (lv_at hl 5 rfl) ?_
      refine lv_iconst (v := 0) hx hb dz_636 (by decide) ?_
      refine uw_lald (A := lx_A s) (H0 := s.heap) cX_ok hx hb hG.2.1 ⟨hM.1, hM.2.2.2.2.2⟩ cr_out hq dz_637 (fun v7 hq => ?_)
      refine lv_iload hx hb dz_638 (lv_at hl 0 rfl) ?_
      refine lv_i2l hx hb dz_640 rfl ?_
      refine W.lcmp hx hb dz_641 ?_
      refine lv_if_eq (tgt := 647) hx hb dz_642 (by decide) (fun hc9 => ?_) (fun hc9 => ?_)
      · have hq := tw_it hq hc9
        refine lv_goto (tgt := 2616) hx hb dz_647 (by decide) ?_
        exact kk _ _ H locs ls hM (lv_sub hl [2, 3, 4, 5, 6] rfl) hq
      · have hq := tw_if hq hc9
        refine lv_iconst (v := 0) hx hb dz_645 (by decide) ?_
        exact cw_no hq
  · have hq := tw_if hq hc9
    refine lv_iconst (v := 0) hx hb dz_628 (by decide) ?_
    exact cw_no hq
theorem dz_650 : decode cL_law 650 = .ok (.aload_n 1, 1) := by decide +kernel
theorem dz_651 : decode cL_law 651 = .ok (.aload_n 0, 1) := by decide +kernel
theorem dz_652 : decode cL_law 652 = .ok (.iload 4, 2) := by decide +kernel
theorem dz_654 : decode cL_law 654 = .ok (.iconst 1, 1) := by decide +kernel
theorem dz_655 : decode cL_law 655 = .ok (.iadd, 1) := by decide +kernel
theorem dz_656 : decode cL_law 656 = .ok (.iaload, 1) := by decide +kernel
theorem dz_657 : decode cL_law 657 = .ok (.aload_n 0, 1) := by decide +kernel
theorem dz_658 : decode cL_law 658 = .ok (.iload 4, 2) := by decide +kernel
theorem dz_660 : decode cL_law 660 = .ok (.iconst 2, 1) := by decide +kernel
theorem dz_661 : decode cL_law 661 = .ok (.iadd, 1) := by decide +kernel
theorem dz_662 : decode cL_law 662 = .ok (.iaload, 1) := by decide +kernel
theorem dz_663 : decode cL_law 663 = .ok (.aload_n 0, 1) := by decide +kernel
theorem dz_664 : decode cL_law 664 = .ok (.iload 4, 2) := by decide +kernel
theorem dz_666 : decode cL_law 666 = .ok (.iconst 3, 1) := by decide +kernel
theorem dz_667 : decode cL_law 667 = .ok (.iadd, 1) := by decide +kernel
theorem dz_668 : decode cL_law 668 = .ok (.iaload, 1) := by decide +kernel
theorem dz_669 : decode cL_law 669 = .ok (.aload_n 3, 1) := by decide +kernel
theorem dz_670 : decode cL_law 670 = .ok (.invokestatic 169, 3) := by decide +kernel
theorem dz_673 : decode cL_law 673 = .ok (.istore 5, 2) := by decide +kernel
theorem dz_675 : decode cL_law 675 = .ok (.aload_n 2, 1) := by decide +kernel
theorem dz_676 : decode cL_law 676 = .ok (.aload_n 0, 1) := by decide +kernel
theorem dz_677 : decode cL_law 677 = .ok (.iload 4, 2) := by decide +kernel
theorem dz_679 : decode cL_law 679 = .ok (.iconst 1, 1) := by decide +kernel
theorem dz_680 : decode cL_law 680 = .ok (.iadd, 1) := by decide +kernel
theorem dz_681 : decode cL_law 681 = .ok (.iaload, 1) := by decide +kernel
theorem dz_682 : decode cL_law 682 = .ok (.aload_n 0, 1) := by decide +kernel
theorem dz_683 : decode cL_law 683 = .ok (.iload 4, 2) := by decide +kernel
theorem dz_685 : decode cL_law 685 = .ok (.iconst 2, 1) := by decide +kernel
theorem dz_686 : decode cL_law 686 = .ok (.iadd, 1) := by decide +kernel
theorem dz_687 : decode cL_law 687 = .ok (.iaload, 1) := by decide +kernel
theorem dz_688 : decode cL_law 688 = .ok (.aload_n 0, 1) := by decide +kernel
theorem dz_689 : decode cL_law 689 = .ok (.iload 4, 2) := by decide +kernel
theorem dz_691 : decode cL_law 691 = .ok (.iconst 3, 1) := by decide +kernel
theorem dz_692 : decode cL_law 692 = .ok (.iadd, 1) := by decide +kernel
theorem dz_693 : decode cL_law 693 = .ok (.iaload, 1) := by decide +kernel
theorem dz_694 : decode cL_law 694 = .ok (.invokevirtual 171, 3) := by decide +kernel
theorem dz_697 : decode cL_law 697 = .ok (.istore 6, 2) := by decide +kernel
theorem dz_699 : decode cL_law 699 = .ok (.aload_n 2, 1) := by decide +kernel
theorem dz_700 : decode cL_law 700 = .ok (.invokevirtual 137, 3) := by decide +kernel
theorem dz_703 : decode cL_law 703 = .ok (.iload 5, 2) := by decide +kernel
theorem dz_705 : decode cL_law 705 = .ok (.if_icmp .eq 5, 3) := by decide +kernel
theorem dz_708 : decode cL_law 708 = .ok (.iconst 0, 1) := by decide +kernel
theorem dz_709 : decode cL_law 709 = .ok (.ireturn, 1) := by decide +kernel
theorem dz_710 : decode cL_law 710 = .ok (.iload 5, 2) := by decide +kernel
theorem dz_712 : decode cL_law 712 = .ok (.ifCond .ne 15, 3) := by decide +kernel
theorem dz_715 : decode cL_law 715 = .ok (.aload_n 3, 1) := by decide +kernel
theorem dz_716 : decode cL_law 716 = .ok (.iconst 0, 1) := by decide +kernel
theorem dz_717 : decode cL_law 717 = .ok (.laload, 1) := by decide +kernel
theorem dz_718 : decode cL_law 718 = .ok (.iload 6, 2) := by decide +kernel
theorem dz_720 : decode cL_law 720 = .ok (.i2l, 1) := by decide +kernel
theorem dz_721 : decode cL_law 721 = .ok (.lcmp, 1) := by decide +kernel
theorem dz_722 : decode cL_law 722 = .ok (.ifCond .eq 5, 3) := by decide +kernel
theorem dz_725 : decode cL_law 725 = .ok (.iconst 0, 1) := by decide +kernel
theorem dz_726 : decode cL_law 726 = .ok (.ireturn, 1) := by decide +kernel
theorem dz_727 : decode cL_law 727 = .ok (.goto 1889, 3) := by decide +kernel
def lst_linking (vl : Nat → Nat) (K : Nat) (x1 : Int32) (x2 : Int32) (x3 : Int32) (x4 : Int32) (x5 : Int32) (zc zm : ow_MS) : Option ow_LwS :=
 cs1 (le_L_linking vl K 0 x1 x2 x3 zc) fun v2 zc1 => cs1 (qe_X13_linking K x1 x2 x3 zm) fun v4 zm3 => cs1 (qe_X13_thrown K zm3) fun v6 zm5 => (if v6 = v2 then (if v2 = 0 then crJ (cX vl) zc1 52001 0 fun v7 => (if (lg_cmp v7 v4.toInt64) = 0 then some (vl, zc1, zm5)
 else none)
 else some (vl, zc1, zm5))
 else none)
set_option maxHeartbeats 4000000 in
set_option maxRecDepth 100000 in
theorem lxc_linking {p : Program} {l : Launch} {e : Env} {s : State} {m : MethodId} {args : Array Value} {below : List Frame} {meth : Method} {c : Code} {b L K n : Nat} {xs : Nat → Int32} {D : va_G} {q : Nat → ClassId} {q5 : ow_Q5} {vl u w sa : Nat → Nat} {zc zm : ow_MS} {S1 : ow_LwS} {Ts : List Cond} {Q : State → Prop} {H : Heap} {locs : List Loc} {ls : Array Slot} {cells slots : Nat} (hx : p.tables.exec = Jvm.exec) (hb : c.code = cL_law) (hml : c.maxLocals = 8) (hown : s.vm.findClass RL = some m.cls) (hts : ∀ w ∈ Ts, w.before args s = true) (hX : va_X b L xs s s.heap) (hbl : b < s.heap.size) (hZ : ∀ w ∈ wZ, w ∈ Ts) (hL1 : ∀ w ∈ wLL, w ∈ Ts) (hC1 : ∀ w ∈ wC, w ∈ Ts) (hM1 : ∀ w ∈ wM, w ∈ Ts) (hG : lx_G l s D q q5 sa) (hLn : L ≤ 3072) (hn : 6 * n + 6 ≤ L) (hq : lst_linking vl K (xs (6 * n + 1)) (xs (6 * n + 2)) (xs (6 * n + 3)) (xs (6 * n + 4)) (xs (6 * n + 5)) zc zm = some S1) (hM : lx_M D q q5 s vl u w zc zm H locs) (hl : lv_has ls 8 [(0, .ref b), (1, .ref (u 0)), (2, .ref (w 0)), (3, .ref (u 52001)), (4, .int (nI (6 * n)))]) (hc : cells + 4 ≤ 600002) (hs : slots + 24 ≤ 7302232) (kk : ∀ (zc1 zm1 : ow_MS) (H1 : Heap) (locs1 : List Loc) (ls1 : Array Slot), lx_M D q q5 s vl u w zc1 zm1 H1 locs1 → lv_has ls1 8 [(0, .ref b), (1, .ref (u 0)), (2, .ref (w 0)), (3, .ref (u 52001)), (4, .int (nI (6 * n)))] → some (vl, zc1, zm1) = some S1 → W p l e room_1 s m args below meth c H1 locs1 (cells + 4) (slots + 24) Q (F0 m 2616 ls1 [])) : W p l e room_1 s m args below meth c H locs cells slots Q (F0 m 650 ls []) := by
  have hbA : ¬ lx_A s b := Nat.not_le.mpr hbl
  generalize e1 : xs (6 * n + 1) = x1 at hq
  generalize e2 : xs (6 * n + 2) = x2 at hq
  generalize e3 : xs (6 * n + 3) = x3 at hq
  generalize e4 : xs (6 * n + 4) = x4 at hq
  generalize e5 : xs (6 * n + 5) = x5 at hq
  unfold lst_linking at hq
  refine lv_aload_n hx hb dz_650 rfl (lv_at hl 1 rfl) ?_
  refine lv_aload_n hx hb dz_651 rfl (lv_at hl 0 rfl) ?_
  refine lv_iload hx hb dz_652 (lv_at hl 4 rfl) ?_
  refine lv_iconst (v := 1) hx hb dz_654 (by decide) ?_
  refine lv_iadd hx hb dz_655 ?_
  refine ow_topi (y := nI (6 * n + 1)) (nI_add (6 * n) 1) ?_
  refine va_sld hx hb hX hbl hbA hM.2.2.2.2.2 (vp_in_nI (n := 6 * n + 1) (N := L) (by omega) (by omega)) dz_656 ?_
  refine ow_topi (y := x1) ((congrArg xs (nI_clamp (by omega))).trans e1) ?_
  refine lv_aload_n hx hb dz_657 rfl (lv_at hl 0 rfl) ?_
  refine lv_iload hx hb dz_658 (lv_at hl 4 rfl) ?_
  refine lv_iconst (v := 2) hx hb dz_660 (by decide) ?_
  refine lv_iadd hx hb dz_661 ?_
  refine ow_topi (y := nI (6 * n + 2)) (nI_add (6 * n) 2) ?_
  refine va_sld hx hb hX hbl hbA hM.2.2.2.2.2 (vp_in_nI (n := 6 * n + 2) (N := L) (by omega) (by omega)) dz_662 ?_
  refine ow_topi (y := x2) ((congrArg xs (nI_clamp (by omega))).trans e2) ?_
  refine lv_aload_n hx hb dz_663 rfl (lv_at hl 0 rfl) ?_
  refine lv_iload hx hb dz_664 (lv_at hl 4 rfl) ?_
  refine lv_iconst (v := 3) hx hb dz_666 (by decide) ?_
  refine lv_iadd hx hb dz_667 ?_
  refine ow_topi (y := nI (6 * n + 3)) (nI_add (6 * n) 3) ?_
  refine va_sld hx hb hX hbl hbA hM.2.2.2.2.2 (vp_in_nI (n := 6 * n + 3) (N := L) (by omega) (by omega)) dz_668 ?_
  refine ow_topi (y := x3) ((congrArg xs (nI_clamp (by omega))).trans e3) ?_
  refine lv_aload_n hx hb dz_669 rfl (lv_at hl 3 rfl) ?_
  obtain ⟨v2, zc1, hcq, hq⟩ := tw_cl1 hq
  refine lx_wrap hM (vx_runSX (As := [.ref (u 0), .int x1, .int x2, .int x3, .ref (u 52001)]) (rest := []) ⟨hx, hb, hml, hown, hts⟩ (kl_L_linking l D q vl u hM.2.2.1.1 hG.1 sa K 0 x1 x2 x3 (by unfold cw_X11 ci_X11; exact List.mem_singleton.mpr rfl) zc zc1 v2 hcq) (vx_cwSW 5 hts (lx_gS (lx_all wLL_good rfl) (lx_mem hL1 (hZ _ zq_65)) (hZ _ zq_66) (hZ _ zq_67) (hZ _ zq_3) rfl rfl rfl) rfl rfl rfl (by decide +kernel) ⟨(Nat.le_of_ble_eq_true rfl), (Nat.le_of_ble_eq_true rfl)⟩) (lx_preL hG hM) rfl rfl hl.1 rfl (lv_room (Nat.le_of_ble_eq_true rfl)) dz_670 ⟨(by show _ ≤ 600002; omega), (by show _ ≤ 7302232; omega)⟩) (fun H locs hM => ?_)
  refine lv_istore (lv' := [(5, .int v2), (0, .ref b), (1, .ref (u 0)), (2, .ref (w 0)), (3, .ref (u 52001)), (4, .int (nI (6 * n)))]) hx hb dz_673 hl (by decide) rfl (fun ls hl => ?_)
  refine lv_aload_n hx hb dz_675 rfl (lv_at hl 3 rfl) ?_
  refine lv_aload_n hx hb dz_676 rfl (lv_at hl 1 rfl) ?_
  refine lv_iload hx hb dz_677 (lv_at hl 5 rfl) ?_
  refine lv_iconst (v := 1) hx hb dz_679 (by decide) ?_
  refine lv_iadd hx hb dz_680 ?_
  refine ow_topi (y := nI (6 * n + 1)) (nI_add (6 * n) 1) ?_
  refine va_sld hx hb hX hbl hbA hM.2.2.2.2.2 (vp_in_nI (n := 6 * n + 1) (N := L) (by omega) (by omega)) dz_681 ?_
  refine ow_topi (y := x1) ((congrArg xs (nI_clamp (by omega))).trans e1) ?_
  refine lv_aload_n hx hb dz_682 rfl (lv_at hl 1 rfl) ?_
  refine lv_iload hx hb dz_683 (lv_at hl 5 rfl) ?_
  refine lv_iconst (v := 2) hx hb dz_685 (by decide) ?_
  refine lv_iadd hx hb dz_686 ?_
  refine ow_topi (y := nI (6 * n + 2)) (nI_add (6 * n) 2) ?_
  refine va_sld hx hb hX hbl hbA hM.2.2.2.2.2 (vp_in_nI (n := 6 * n + 2) (N := L) (by omega) (by omega)) dz_687 ?_
  refine ow_topi (y := x2) ((congrArg xs (nI_clamp (by omega))).trans e2) ?_
  refine lv_aload_n hx hb dz_688 rfl (lv_at hl 1 rfl) ?_
  refine lv_iload hx hb dz_689 (lv_at hl 5 rfl) ?_
  refine lv_iconst (v := 3) hx hb dz_691 (by decide) ?_
  refine lv_iadd hx hb dz_692 ?_
  refine ow_topi (y := nI (6 * n + 3)) (nI_add (6 * n) 3) ?_
  refine va_sld hx hb hX hbl hbA hM.2.2.2.2.2 (vp_in_nI (n := 6 * n + 3) (N := L) (by omega) (by omega)) dz_693 ?_
  refine ow_topi (y := x3) ((congrArg xs (nI_clamp (by omega))).trans e3) ?_
  obtain ⟨v4, zm3, hcq, hq⟩ := tw_cl1 hq
  refine lx_refi hM (va_runV (As := [.int x1, .int x2, .int x3]) (rest := []) ⟨hx, hb, hml, hown, hts⟩ (km_X13_linking l D q5 w hM.2.2.2.1.1 K x1 x2 x3 zm zm3 v4 hcq) (cwV 3 hts (lx_gV (lx_all wM_good rfl) (lx_mem hM1 (hZ _ zq_68)) (hZ _ zq_69) (hZ _ zq_70) (hZ _ zq_71) (hZ _ zq_8) rfl rfl rfl rfl) rfl rfl rfl cd_X13_linking ⟨(Nat.le_of_ble_eq_true rfl), (Nat.le_of_ble_eq_true rfl)⟩) (lx_preM hG hM) rfl rfl hl.1 rfl (lv_room (Nat.le_of_ble_eq_true rfl)) dz_694 ⟨(by show _ ≤ 600002; omega), (by show _ ≤ 7302232; omega)⟩) (fun H locs hM => ?_)
  refine lv_istore (lv' := [(6, .int v4), (5, .int v2), (0, .ref b), (1, .ref (u 0)), (2, .ref (w 0)), (3, .ref (u 52001)), (4, .int (nI (6 * n)))]) hx hb dz_697 hl (by decide) rfl (fun ls hl => ?_)
  refine lv_aload_n hx hb dz_699 rfl (lv_at hl 4 rfl) ?_
  obtain ⟨v6, zm5, hcq, hq⟩ := tw_cl1 hq
  refine lx_refi hM (va_runV (As := []) (rest := []) ⟨hx, hb, hml, hown, hts⟩ (km_X13_thrown l D q5 w hM.2.2.2.1.1 K zm3 zm5 v6 hcq) (cwV 0 hts (lx_gV (lx_all wM_good rfl) (lx_mem hM1 (hZ _ zq_9)) (hZ _ zq_10) (hZ _ zq_11) (hZ _ zq_12) (hZ _ zq_8) rfl rfl rfl rfl) rfl rfl rfl cd_X13_thrown ⟨(Nat.le_of_ble_eq_true rfl), (Nat.le_of_ble_eq_true rfl)⟩) (lx_preM hG hM) rfl rfl hl.1 rfl (lv_room (Nat.le_of_ble_eq_true rfl)) dz_700 ⟨(by show _ ≤ 600002; omega), (by show _ ≤ 7302232; omega)⟩) (fun H locs hM => ?_)
  refine lv_iload hx hb dz_703 (lv_at hl 1 rfl) ?_
  refine lv_icmp_eq (tgt := 710) hx hb dz_705 (by decide) (fun hc9 => ?_) (fun hc9 => ?_)
  · have hq := tw_it hq hc9
    refine lv_iload hx hb dz_710 (lv_at hl 1 rfl) ?_
    refine lv_if_ne (tgt := 727) hx hb dz_712 (by decide) (fun hc9 => ?_) (fun hc9 => ?_)
    · have hq := tw_if hq hc9
      refine lv_goto (tgt := 2616) hx hb dz_727 (by decide) ?_
      exact kk _ _ H locs ls hM (lv_sub hl [2, 3, 4, 5, 6] rfl) hq
    · have hq := tw_it hq hc9
      refine lv_aload_n hx hb dz_715 rfl (lv_at hl 5 rfl) ?_
      refine lv_iconst (v := 0) hx hb dz_716 (by decide) ?_
      refine uw_lald (A := lx_A s) (H0 := s.heap) cX_ok hx hb hG.2.1 ⟨hM.1, hM.2.2.2.2.2⟩ cr_out hq dz_717 (fun v7 hq => ?_)
      refine lv_iload hx hb dz_718 (lv_at hl 0 rfl) ?_
      refine lv_i2l hx hb dz_720 rfl ?_
      refine W.lcmp hx hb dz_721 ?_
      refine lv_if_eq (tgt := 727) hx hb dz_722 (by decide) (fun hc9 => ?_) (fun hc9 => ?_)
      · have hq := tw_it hq hc9
        refine lv_goto (tgt := 2616) hx hb dz_727 (by decide) ?_
        exact kk _ _ H locs ls hM (lv_sub hl [2, 3, 4, 5, 6] rfl) hq
      · have hq := tw_if hq hc9
        refine lv_iconst (v := 0) hx hb dz_725 (by decide) ?_
        exact cw_no hq
  · have hq := tw_if hq hc9
    refine lv_iconst (v := 0) hx hb dz_708 (by decide) ?_
    exact cw_no hq
theorem dz_730 : decode cL_law 730 = .ok (.aload_n 1, 1) := by decide +kernel
theorem dz_731 : decode cL_law 731 = .ok (.aload_n 0, 1) := by decide +kernel
theorem dz_732 : decode cL_law 732 = .ok (.iload 4, 2) := by decide +kernel
theorem dz_734 : decode cL_law 734 = .ok (.iconst 1, 1) := by decide +kernel
theorem dz_735 : decode cL_law 735 = .ok (.iadd, 1) := by decide +kernel
theorem dz_736 : decode cL_law 736 = .ok (.iaload, 1) := by decide +kernel
theorem dz_737 : decode cL_law 737 = .ok (.aload_n 0, 1) := by decide +kernel
theorem dz_738 : decode cL_law 738 = .ok (.iload 4, 2) := by decide +kernel
theorem dz_740 : decode cL_law 740 = .ok (.iconst 2, 1) := by decide +kernel
theorem dz_741 : decode cL_law 741 = .ok (.iadd, 1) := by decide +kernel
theorem dz_742 : decode cL_law 742 = .ok (.iaload, 1) := by decide +kernel
theorem dz_743 : decode cL_law 743 = .ok (.invokevirtual 172, 3) := by decide +kernel
theorem dz_746 : decode cL_law 746 = .ok (.aload_n 2, 1) := by decide +kernel
theorem dz_747 : decode cL_law 747 = .ok (.aload_n 0, 1) := by decide +kernel
theorem dz_748 : decode cL_law 748 = .ok (.iload 4, 2) := by decide +kernel
theorem dz_750 : decode cL_law 750 = .ok (.iconst 1, 1) := by decide +kernel
theorem dz_751 : decode cL_law 751 = .ok (.iadd, 1) := by decide +kernel
theorem dz_752 : decode cL_law 752 = .ok (.iaload, 1) := by decide +kernel
theorem dz_753 : decode cL_law 753 = .ok (.aload_n 0, 1) := by decide +kernel
theorem dz_754 : decode cL_law 754 = .ok (.iload 4, 2) := by decide +kernel
theorem dz_756 : decode cL_law 756 = .ok (.iconst 2, 1) := by decide +kernel
theorem dz_757 : decode cL_law 757 = .ok (.iadd, 1) := by decide +kernel
theorem dz_758 : decode cL_law 758 = .ok (.iaload, 1) := by decide +kernel
theorem dz_759 : decode cL_law 759 = .ok (.invokevirtual 176, 3) := by decide +kernel
theorem dz_762 : decode cL_law 762 = .ok (.if_icmp .eq 1854, 3) := by decide +kernel
theorem dz_765 : decode cL_law 765 = .ok (.iconst 0, 1) := by decide +kernel
theorem dz_766 : decode cL_law 766 = .ok (.ireturn, 1) := by decide +kernel
def lst_alike (vl : Nat → Nat) (K : Nat) (x1 : Int32) (x2 : Int32) (x3 : Int32) (x4 : Int32) (x5 : Int32) (zc zm : ow_MS) : Option ow_LwS :=
 cs1 (ce_X11_alike vl K 0 x1 x2 zc) fun v2 zc1 => cs1 (qe_X13_alike K x1 x2 zm) fun v4 zm3 => (if v2 = v4 then some (vl, zc1, zm3)
 else none)
set_option maxHeartbeats 4000000 in
set_option maxRecDepth 100000 in
theorem lxc_alike {p : Program} {l : Launch} {e : Env} {s : State} {m : MethodId} {args : Array Value} {below : List Frame} {meth : Method} {c : Code} {b L K n : Nat} {xs : Nat → Int32} {D : va_G} {q : Nat → ClassId} {q5 : ow_Q5} {vl u w sa : Nat → Nat} {zc zm : ow_MS} {S1 : ow_LwS} {Ts : List Cond} {Q : State → Prop} {H : Heap} {locs : List Loc} {ls : Array Slot} {cells slots : Nat} (hx : p.tables.exec = Jvm.exec) (hb : c.code = cL_law) (hml : c.maxLocals = 8) (hown : s.vm.findClass RL = some m.cls) (hts : ∀ w ∈ Ts, w.before args s = true) (hX : va_X b L xs s s.heap) (hbl : b < s.heap.size) (hZ : ∀ w ∈ wZ, w ∈ Ts) (hL1 : ∀ w ∈ wLL, w ∈ Ts) (hC1 : ∀ w ∈ wC, w ∈ Ts) (hM1 : ∀ w ∈ wM, w ∈ Ts) (hG : lx_G l s D q q5 sa) (hLn : L ≤ 3072) (hn : 6 * n + 6 ≤ L) (hq : lst_alike vl K (xs (6 * n + 1)) (xs (6 * n + 2)) (xs (6 * n + 3)) (xs (6 * n + 4)) (xs (6 * n + 5)) zc zm = some S1) (hM : lx_M D q q5 s vl u w zc zm H locs) (hl : lv_has ls 8 [(0, .ref b), (1, .ref (u 0)), (2, .ref (w 0)), (3, .ref (u 52001)), (4, .int (nI (6 * n)))]) (hc : cells + 0 ≤ 600002) (hs : slots + 0 ≤ 7302232) (kk : ∀ (zc1 zm1 : ow_MS) (H1 : Heap) (locs1 : List Loc) (ls1 : Array Slot), lx_M D q q5 s vl u w zc1 zm1 H1 locs1 → lv_has ls1 8 [(0, .ref b), (1, .ref (u 0)), (2, .ref (w 0)), (3, .ref (u 52001)), (4, .int (nI (6 * n)))] → some (vl, zc1, zm1) = some S1 → W p l e room_1 s m args below meth c H1 locs1 (cells + 0) (slots + 0) Q (F0 m 2616 ls1 [])) : W p l e room_1 s m args below meth c H locs cells slots Q (F0 m 730 ls []) := by
  have hbA : ¬ lx_A s b := Nat.not_le.mpr hbl
  generalize e1 : xs (6 * n + 1) = x1 at hq
  generalize e2 : xs (6 * n + 2) = x2 at hq
  generalize e3 : xs (6 * n + 3) = x3 at hq
  generalize e4 : xs (6 * n + 4) = x4 at hq
  generalize e5 : xs (6 * n + 5) = x5 at hq
  unfold lst_alike at hq
  refine lv_aload_n hx hb dz_730 rfl (lv_at hl 1 rfl) ?_
  refine lv_aload_n hx hb dz_731 rfl (lv_at hl 0 rfl) ?_
  refine lv_iload hx hb dz_732 (lv_at hl 4 rfl) ?_
  refine lv_iconst (v := 1) hx hb dz_734 (by decide) ?_
  refine lv_iadd hx hb dz_735 ?_
  refine ow_topi (y := nI (6 * n + 1)) (nI_add (6 * n) 1) ?_
  refine va_sld hx hb hX hbl hbA hM.2.2.2.2.2 (vp_in_nI (n := 6 * n + 1) (N := L) (by omega) (by omega)) dz_736 ?_
  refine ow_topi (y := x1) ((congrArg xs (nI_clamp (by omega))).trans e1) ?_
  refine lv_aload_n hx hb dz_737 rfl (lv_at hl 0 rfl) ?_
  refine lv_iload hx hb dz_738 (lv_at hl 4 rfl) ?_
  refine lv_iconst (v := 2) hx hb dz_740 (by decide) ?_
  refine lv_iadd hx hb dz_741 ?_
  refine ow_topi (y := nI (6 * n + 2)) (nI_add (6 * n) 2) ?_
  refine va_sld hx hb hX hbl hbA hM.2.2.2.2.2 (vp_in_nI (n := 6 * n + 2) (N := L) (by omega) (by omega)) dz_742 ?_
  refine ow_topi (y := x2) ((congrArg xs (nI_clamp (by omega))).trans e2) ?_
  obtain ⟨v2, zc1, hcq, hq⟩ := tw_cl1 hq
  refine lx_cls hM (va_runV (As := [.int x1, .int x2]) (rest := []) ⟨hx, hb, hml, hown, hts⟩ (kc_X11_alike l D q vl u hM.2.2.1.1 K 0 x1 x2 (by unfold cw_X11 ci_X11; exact List.mem_singleton.mpr rfl) zc zc1 v2 hcq) (cwV 2 hts (lx_gV (lx_all wC_good rfl) (lx_mem hC1 (hZ _ zq_72)) (hZ _ zq_73) (hZ _ zq_74) (hZ _ zq_75) (hZ _ zq_38) rfl rfl rfl rfl) rfl rfl rfl cdd_X11_alike ⟨(Nat.le_of_ble_eq_true rfl), (Nat.le_of_ble_eq_true rfl)⟩) (lx_preC hG hM) rfl rfl hl.1 rfl (lv_room (Nat.le_of_ble_eq_true rfl)) dz_743 ⟨(by show _ ≤ 600002; omega), (by show _ ≤ 7302232; omega)⟩) (fun H locs hM => ?_)
  refine lv_aload_n hx hb dz_746 rfl (lv_at hl 2 rfl) ?_
  refine lv_aload_n hx hb dz_747 rfl (lv_at hl 0 rfl) ?_
  refine lv_iload hx hb dz_748 (lv_at hl 4 rfl) ?_
  refine lv_iconst (v := 1) hx hb dz_750 (by decide) ?_
  refine lv_iadd hx hb dz_751 ?_
  refine ow_topi (y := nI (6 * n + 1)) (nI_add (6 * n) 1) ?_
  refine va_sld hx hb hX hbl hbA hM.2.2.2.2.2 (vp_in_nI (n := 6 * n + 1) (N := L) (by omega) (by omega)) dz_752 ?_
  refine ow_topi (y := x1) ((congrArg xs (nI_clamp (by omega))).trans e1) ?_
  refine lv_aload_n hx hb dz_753 rfl (lv_at hl 0 rfl) ?_
  refine lv_iload hx hb dz_754 (lv_at hl 4 rfl) ?_
  refine lv_iconst (v := 2) hx hb dz_756 (by decide) ?_
  refine lv_iadd hx hb dz_757 ?_
  refine ow_topi (y := nI (6 * n + 2)) (nI_add (6 * n) 2) ?_
  refine va_sld hx hb hX hbl hbA hM.2.2.2.2.2 (vp_in_nI (n := 6 * n + 2) (N := L) (by omega) (by omega)) dz_758 ?_
  refine ow_topi (y := x2) ((congrArg xs (nI_clamp (by omega))).trans e2) ?_
  obtain ⟨v4, zm3, hcq, hq⟩ := tw_cl1 hq
  refine lx_refi hM (va_runV (As := [.int x1, .int x2]) (rest := [.int v2]) ⟨hx, hb, hml, hown, hts⟩ (km_X13_alike l D q5 w hM.2.2.2.1.1 K x1 x2 zm zm3 v4 hcq) (cwV 2 hts (lx_gV (lx_all wM_good rfl) (lx_mem hM1 (hZ _ zq_76)) (hZ _ zq_77) (hZ _ zq_78) (hZ _ zq_79) (hZ _ zq_8) rfl rfl rfl rfl) rfl rfl rfl cd_X13_alike ⟨(Nat.le_of_ble_eq_true rfl), (Nat.le_of_ble_eq_true rfl)⟩) (lx_preM hG hM) rfl rfl hl.1 rfl (lv_room (Nat.le_of_ble_eq_true rfl)) dz_759 ⟨(by show _ ≤ 600002; omega), (by show _ ≤ 7302232; omega)⟩) (fun H locs hM => ?_)
  refine lv_icmp_eq (tgt := 2616) hx hb dz_762 (by decide) (fun hc9 => ?_) (fun hc9 => ?_)
  · have hq := tw_it hq hc9
    exact kk _ _ H locs ls hM (lv_sub hl [0, 1, 2, 3, 4] rfl) hq
  · have hq := tw_if hq hc9
    refine lv_iconst (v := 0) hx hb dz_765 (by decide) ?_
    exact cw_no hq
theorem dz_767 : decode cL_law 767 = .ok (.aload_n 1, 1) := by decide +kernel
theorem dz_768 : decode cL_law 768 = .ok (.aload_n 0, 1) := by decide +kernel
theorem dz_769 : decode cL_law 769 = .ok (.iload 4, 2) := by decide +kernel
theorem dz_771 : decode cL_law 771 = .ok (.iconst 1, 1) := by decide +kernel
theorem dz_772 : decode cL_law 772 = .ok (.iadd, 1) := by decide +kernel
theorem dz_773 : decode cL_law 773 = .ok (.iaload, 1) := by decide +kernel
theorem dz_774 : decode cL_law 774 = .ok (.aload_n 3, 1) := by decide +kernel
theorem dz_775 : decode cL_law 775 = .ok (.invokestatic 177, 3) := by decide +kernel
theorem dz_778 : decode cL_law 778 = .ok (.istore 5, 2) := by decide +kernel
theorem dz_780 : decode cL_law 780 = .ok (.aload_n 2, 1) := by decide +kernel
theorem dz_781 : decode cL_law 781 = .ok (.aload_n 0, 1) := by decide +kernel
theorem dz_782 : decode cL_law 782 = .ok (.iload 4, 2) := by decide +kernel
theorem dz_784 : decode cL_law 784 = .ok (.iconst 1, 1) := by decide +kernel
theorem dz_785 : decode cL_law 785 = .ok (.iadd, 1) := by decide +kernel
theorem dz_786 : decode cL_law 786 = .ok (.iaload, 1) := by decide +kernel
theorem dz_787 : decode cL_law 787 = .ok (.invokevirtual 179, 3) := by decide +kernel
theorem dz_790 : decode cL_law 790 = .ok (.istore 6, 2) := by decide +kernel
theorem dz_792 : decode cL_law 792 = .ok (.aload_n 2, 1) := by decide +kernel
theorem dz_793 : decode cL_law 793 = .ok (.invokevirtual 137, 3) := by decide +kernel
theorem dz_796 : decode cL_law 796 = .ok (.iload 5, 2) := by decide +kernel
theorem dz_798 : decode cL_law 798 = .ok (.if_icmp .eq 5, 3) := by decide +kernel
theorem dz_801 : decode cL_law 801 = .ok (.iconst 0, 1) := by decide +kernel
theorem dz_802 : decode cL_law 802 = .ok (.ireturn, 1) := by decide +kernel
theorem dz_803 : decode cL_law 803 = .ok (.iload 5, 2) := by decide +kernel
theorem dz_805 : decode cL_law 805 = .ok (.ifCond .ne 15, 3) := by decide +kernel
theorem dz_808 : decode cL_law 808 = .ok (.aload_n 3, 1) := by decide +kernel
theorem dz_809 : decode cL_law 809 = .ok (.iconst 0, 1) := by decide +kernel
theorem dz_810 : decode cL_law 810 = .ok (.laload, 1) := by decide +kernel
theorem dz_811 : decode cL_law 811 = .ok (.iload 6, 2) := by decide +kernel
theorem dz_813 : decode cL_law 813 = .ok (.i2l, 1) := by decide +kernel
theorem dz_814 : decode cL_law 814 = .ok (.lcmp, 1) := by decide +kernel
theorem dz_815 : decode cL_law 815 = .ok (.ifCond .eq 5, 3) := by decide +kernel
theorem dz_818 : decode cL_law 818 = .ok (.iconst 0, 1) := by decide +kernel
theorem dz_819 : decode cL_law 819 = .ok (.ireturn, 1) := by decide +kernel
theorem dz_820 : decode cL_law 820 = .ok (.goto 1796, 3) := by decide +kernel
def lst_mirror (vl : Nat → Nat) (K : Nat) (x1 : Int32) (x2 : Int32) (x3 : Int32) (x4 : Int32) (x5 : Int32) (zc zm : ow_MS) : Option ow_LwS :=
 cs1 (le_L_mirror vl K 0 x1 zc) fun v2 zc1 => cs1 (qe_X13_mirror K x1 zm) fun v4 zm3 => cs1 (qe_X13_thrown K zm3) fun v6 zm5 => (if v6 = v2 then (if v2 = 0 then crJ (cX vl) zc1 52001 0 fun v7 => (if (lg_cmp v7 v4.toInt64) = 0 then some (vl, zc1, zm5)
 else none)
 else some (vl, zc1, zm5))
 else none)
set_option maxHeartbeats 4000000 in
set_option maxRecDepth 100000 in
theorem lxc_mirror {p : Program} {l : Launch} {e : Env} {s : State} {m : MethodId} {args : Array Value} {below : List Frame} {meth : Method} {c : Code} {b L K n : Nat} {xs : Nat → Int32} {D : va_G} {q : Nat → ClassId} {q5 : ow_Q5} {vl u w sa : Nat → Nat} {zc zm : ow_MS} {S1 : ow_LwS} {Ts : List Cond} {Q : State → Prop} {H : Heap} {locs : List Loc} {ls : Array Slot} {cells slots : Nat} (hx : p.tables.exec = Jvm.exec) (hb : c.code = cL_law) (hml : c.maxLocals = 8) (hown : s.vm.findClass RL = some m.cls) (hts : ∀ w ∈ Ts, w.before args s = true) (hX : va_X b L xs s s.heap) (hbl : b < s.heap.size) (hZ : ∀ w ∈ wZ, w ∈ Ts) (hL1 : ∀ w ∈ wLL, w ∈ Ts) (hC1 : ∀ w ∈ wC, w ∈ Ts) (hM1 : ∀ w ∈ wM, w ∈ Ts) (hG : lx_G l s D q q5 sa) (hLn : L ≤ 3072) (hn : 6 * n + 6 ≤ L) (hq : lst_mirror vl K (xs (6 * n + 1)) (xs (6 * n + 2)) (xs (6 * n + 3)) (xs (6 * n + 4)) (xs (6 * n + 5)) zc zm = some S1) (hM : lx_M D q q5 s vl u w zc zm H locs) (hl : lv_has ls 8 [(0, .ref b), (1, .ref (u 0)), (2, .ref (w 0)), (3, .ref (u 52001)), (4, .int (nI (6 * n)))]) (hc : cells + 2 ≤ 600002) (hs : slots + 12 ≤ 7302232) (kk : ∀ (zc1 zm1 : ow_MS) (H1 : Heap) (locs1 : List Loc) (ls1 : Array Slot), lx_M D q q5 s vl u w zc1 zm1 H1 locs1 → lv_has ls1 8 [(0, .ref b), (1, .ref (u 0)), (2, .ref (w 0)), (3, .ref (u 52001)), (4, .int (nI (6 * n)))] → some (vl, zc1, zm1) = some S1 → W p l e room_1 s m args below meth c H1 locs1 (cells + 2) (slots + 12) Q (F0 m 2616 ls1 [])) : W p l e room_1 s m args below meth c H locs cells slots Q (F0 m 767 ls []) := by
  have hbA : ¬ lx_A s b := Nat.not_le.mpr hbl
  generalize e1 : xs (6 * n + 1) = x1 at hq
  generalize e2 : xs (6 * n + 2) = x2 at hq
  generalize e3 : xs (6 * n + 3) = x3 at hq
  generalize e4 : xs (6 * n + 4) = x4 at hq
  generalize e5 : xs (6 * n + 5) = x5 at hq
  unfold lst_mirror at hq
  refine lv_aload_n hx hb dz_767 rfl (lv_at hl 1 rfl) ?_
  refine lv_aload_n hx hb dz_768 rfl (lv_at hl 0 rfl) ?_
  refine lv_iload hx hb dz_769 (lv_at hl 4 rfl) ?_
  refine lv_iconst (v := 1) hx hb dz_771 (by decide) ?_
  refine lv_iadd hx hb dz_772 ?_
  refine ow_topi (y := nI (6 * n + 1)) (nI_add (6 * n) 1) ?_
  refine va_sld hx hb hX hbl hbA hM.2.2.2.2.2 (vp_in_nI (n := 6 * n + 1) (N := L) (by omega) (by omega)) dz_773 ?_
  refine ow_topi (y := x1) ((congrArg xs (nI_clamp (by omega))).trans e1) ?_
  refine lv_aload_n hx hb dz_774 rfl (lv_at hl 3 rfl) ?_
  obtain ⟨v2, zc1, hcq, hq⟩ := tw_cl1 hq
  refine lx_wrap hM (vx_runSX (As := [.ref (u 0), .int x1, .ref (u 52001)]) (rest := []) ⟨hx, hb, hml, hown, hts⟩ (kl_L_mirror l D q vl u hM.2.2.1.1 hG.1 sa K 0 x1 (by unfold cw_X11 ci_X11; exact List.mem_singleton.mpr rfl) zc zc1 v2 hcq) (vx_cwSW 3 hts (lx_gS (lx_all wLL_good rfl) (lx_mem hL1 (hZ _ zq_80)) (hZ _ zq_81) (hZ _ zq_82) (hZ _ zq_3) rfl rfl rfl) rfl rfl rfl (by decide +kernel) ⟨(Nat.le_of_ble_eq_true rfl), (Nat.le_of_ble_eq_true rfl)⟩) (lx_preL hG hM) rfl rfl hl.1 rfl (lv_room (Nat.le_of_ble_eq_true rfl)) dz_775 ⟨(by show _ ≤ 600002; omega), (by show _ ≤ 7302232; omega)⟩) (fun H locs hM => ?_)
  refine lv_istore (lv' := [(5, .int v2), (0, .ref b), (1, .ref (u 0)), (2, .ref (w 0)), (3, .ref (u 52001)), (4, .int (nI (6 * n)))]) hx hb dz_778 hl (by decide) rfl (fun ls hl => ?_)
  refine lv_aload_n hx hb dz_780 rfl (lv_at hl 3 rfl) ?_
  refine lv_aload_n hx hb dz_781 rfl (lv_at hl 1 rfl) ?_
  refine lv_iload hx hb dz_782 (lv_at hl 5 rfl) ?_
  refine lv_iconst (v := 1) hx hb dz_784 (by decide) ?_
  refine lv_iadd hx hb dz_785 ?_
  refine ow_topi (y := nI (6 * n + 1)) (nI_add (6 * n) 1) ?_
  refine va_sld hx hb hX hbl hbA hM.2.2.2.2.2 (vp_in_nI (n := 6 * n + 1) (N := L) (by omega) (by omega)) dz_786 ?_
  refine ow_topi (y := x1) ((congrArg xs (nI_clamp (by omega))).trans e1) ?_
  obtain ⟨v4, zm3, hcq, hq⟩ := tw_cl1 hq
  refine lx_refi hM (va_runV (As := [.int x1]) (rest := []) ⟨hx, hb, hml, hown, hts⟩ (km_X13_mirror l D q5 w hM.2.2.2.1.1 K x1 zm zm3 v4 hcq) (cwV 1 hts (lx_gV (lx_all wM_good rfl) (lx_mem hM1 (hZ _ zq_83)) (hZ _ zq_84) (hZ _ zq_85) (hZ _ zq_86) (hZ _ zq_8) rfl rfl rfl rfl) rfl rfl rfl cd_X13_mirror ⟨(Nat.le_of_ble_eq_true rfl), (Nat.le_of_ble_eq_true rfl)⟩) (lx_preM hG hM) rfl rfl hl.1 rfl (lv_room (Nat.le_of_ble_eq_true rfl)) dz_787 ⟨(by show _ ≤ 600002; omega), (by show _ ≤ 7302232; omega)⟩) (fun H locs hM => ?_)
  refine lv_istore (lv' := [(6, .int v4), (5, .int v2), (0, .ref b), (1, .ref (u 0)), (2, .ref (w 0)), (3, .ref (u 52001)), (4, .int (nI (6 * n)))]) hx hb dz_790 hl (by decide) rfl (fun ls hl => ?_)
  refine lv_aload_n hx hb dz_792 rfl (lv_at hl 4 rfl) ?_
  obtain ⟨v6, zm5, hcq, hq⟩ := tw_cl1 hq
  refine lx_refi hM (va_runV (As := []) (rest := []) ⟨hx, hb, hml, hown, hts⟩ (km_X13_thrown l D q5 w hM.2.2.2.1.1 K zm3 zm5 v6 hcq) (cwV 0 hts (lx_gV (lx_all wM_good rfl) (lx_mem hM1 (hZ _ zq_9)) (hZ _ zq_10) (hZ _ zq_11) (hZ _ zq_12) (hZ _ zq_8) rfl rfl rfl rfl) rfl rfl rfl cd_X13_thrown ⟨(Nat.le_of_ble_eq_true rfl), (Nat.le_of_ble_eq_true rfl)⟩) (lx_preM hG hM) rfl rfl hl.1 rfl (lv_room (Nat.le_of_ble_eq_true rfl)) dz_793 ⟨(by show _ ≤ 600002; omega), (by show _ ≤ 7302232; omega)⟩) (fun H locs hM => ?_)
  refine lv_iload hx hb dz_796 (lv_at hl 1 rfl) ?_
  refine lv_icmp_eq (tgt := 803) hx hb dz_798 (by decide) (fun hc9 => ?_) (fun hc9 => ?_)
  · have hq := tw_it hq hc9
    refine lv_iload hx hb dz_803 (lv_at hl 1 rfl) ?_
    refine lv_if_ne (tgt := 820) hx hb dz_805 (by decide) (fun hc9 => ?_) (fun hc9 => ?_)
    · have hq := tw_if hq hc9
      refine lv_goto (tgt := 2616) hx hb dz_820 (by decide) ?_
      exact kk _ _ H locs ls hM (lv_sub hl [2, 3, 4, 5, 6] rfl) hq
    · have hq := tw_it hq hc9
      refine lv_aload_n hx hb dz_808 rfl (lv_at hl 5 rfl) ?_
      refine lv_iconst (v := 0) hx hb dz_809 (by decide) ?_
      refine uw_lald (A := lx_A s) (H0 := s.heap) cX_ok hx hb hG.2.1 ⟨hM.1, hM.2.2.2.2.2⟩ cr_out hq dz_810 (fun v7 hq => ?_)
      refine lv_iload hx hb dz_811 (lv_at hl 0 rfl) ?_
      refine lv_i2l hx hb dz_813 rfl ?_
      refine W.lcmp hx hb dz_814 ?_
      refine lv_if_eq (tgt := 820) hx hb dz_815 (by decide) (fun hc9 => ?_) (fun hc9 => ?_)
      · have hq := tw_it hq hc9
        refine lv_goto (tgt := 2616) hx hb dz_820 (by decide) ?_
        exact kk _ _ H locs ls hM (lv_sub hl [2, 3, 4, 5, 6] rfl) hq
      · have hq := tw_if hq hc9
        refine lv_iconst (v := 0) hx hb dz_818 (by decide) ?_
        exact cw_no hq
  · have hq := tw_if hq hc9
    refine lv_iconst (v := 0) hx hb dz_801 (by decide) ?_
    exact cw_no hq
theorem dz_823 : decode cL_law 823 = .ok (.aload_n 1, 1) := by decide +kernel
theorem dz_824 : decode cL_law 824 = .ok (.aload_n 0, 1) := by decide +kernel
theorem dz_825 : decode cL_law 825 = .ok (.iload 4, 2) := by decide +kernel
theorem dz_827 : decode cL_law 827 = .ok (.iconst 1, 1) := by decide +kernel
theorem dz_828 : decode cL_law 828 = .ok (.iadd, 1) := by decide +kernel
theorem dz_829 : decode cL_law 829 = .ok (.iaload, 1) := by decide +kernel
theorem dz_830 : decode cL_law 830 = .ok (.aload_n 0, 1) := by decide +kernel
theorem dz_831 : decode cL_law 831 = .ok (.iload 4, 2) := by decide +kernel
theorem dz_833 : decode cL_law 833 = .ok (.iconst 2, 1) := by decide +kernel
theorem dz_834 : decode cL_law 834 = .ok (.iadd, 1) := by decide +kernel
theorem dz_835 : decode cL_law 835 = .ok (.iaload, 1) := by decide +kernel
theorem dz_836 : decode cL_law 836 = .ok (.aload_n 3, 1) := by decide +kernel
theorem dz_837 : decode cL_law 837 = .ok (.invokestatic 180, 3) := by decide +kernel
theorem dz_840 : decode cL_law 840 = .ok (.istore 5, 2) := by decide +kernel
theorem dz_842 : decode cL_law 842 = .ok (.aload_n 2, 1) := by decide +kernel
theorem dz_843 : decode cL_law 843 = .ok (.aload_n 0, 1) := by decide +kernel
theorem dz_844 : decode cL_law 844 = .ok (.iload 4, 2) := by decide +kernel
theorem dz_846 : decode cL_law 846 = .ok (.iconst 1, 1) := by decide +kernel
theorem dz_847 : decode cL_law 847 = .ok (.iadd, 1) := by decide +kernel
theorem dz_848 : decode cL_law 848 = .ok (.iaload, 1) := by decide +kernel
theorem dz_849 : decode cL_law 849 = .ok (.aload_n 0, 1) := by decide +kernel
theorem dz_850 : decode cL_law 850 = .ok (.iload 4, 2) := by decide +kernel
theorem dz_852 : decode cL_law 852 = .ok (.iconst 2, 1) := by decide +kernel
theorem dz_853 : decode cL_law 853 = .ok (.iadd, 1) := by decide +kernel
theorem dz_854 : decode cL_law 854 = .ok (.iaload, 1) := by decide +kernel
theorem dz_855 : decode cL_law 855 = .ok (.invokevirtual 182, 3) := by decide +kernel
theorem dz_858 : decode cL_law 858 = .ok (.istore 6, 2) := by decide +kernel
theorem dz_860 : decode cL_law 860 = .ok (.aload_n 2, 1) := by decide +kernel
theorem dz_861 : decode cL_law 861 = .ok (.invokevirtual 137, 3) := by decide +kernel
theorem dz_864 : decode cL_law 864 = .ok (.iload 5, 2) := by decide +kernel
theorem dz_866 : decode cL_law 866 = .ok (.if_icmp .eq 5, 3) := by decide +kernel
theorem dz_869 : decode cL_law 869 = .ok (.iconst 0, 1) := by decide +kernel
theorem dz_870 : decode cL_law 870 = .ok (.ireturn, 1) := by decide +kernel
theorem dz_871 : decode cL_law 871 = .ok (.iload 5, 2) := by decide +kernel
theorem dz_873 : decode cL_law 873 = .ok (.ifCond .ne 15, 3) := by decide +kernel
theorem dz_876 : decode cL_law 876 = .ok (.aload_n 3, 1) := by decide +kernel
theorem dz_877 : decode cL_law 877 = .ok (.iconst 0, 1) := by decide +kernel
theorem dz_878 : decode cL_law 878 = .ok (.laload, 1) := by decide +kernel
theorem dz_879 : decode cL_law 879 = .ok (.iload 6, 2) := by decide +kernel
theorem dz_881 : decode cL_law 881 = .ok (.i2l, 1) := by decide +kernel
theorem dz_882 : decode cL_law 882 = .ok (.lcmp, 1) := by decide +kernel
theorem dz_883 : decode cL_law 883 = .ok (.ifCond .eq 5, 3) := by decide +kernel
theorem dz_886 : decode cL_law 886 = .ok (.iconst 0, 1) := by decide +kernel
theorem dz_887 : decode cL_law 887 = .ok (.ireturn, 1) := by decide +kernel
theorem dz_888 : decode cL_law 888 = .ok (.goto 1728, 3) := by decide +kernel
def lst_reverse (vl : Nat → Nat) (K : Nat) (x1 : Int32) (x2 : Int32) (x3 : Int32) (x4 : Int32) (x5 : Int32) (zc zm : ow_MS) : Option ow_LwS :=
 cs1 (le_L_reverse vl K 0 x1 x2 zc) fun v2 zc1 => cs1 (qe_X13_reverse K x1 x2 zm) fun v4 zm3 => cs1 (qe_X13_thrown K zm3) fun v6 zm5 => (if v6 = v2 then (if v2 = 0 then crJ (cX vl) zc1 52001 0 fun v7 => (if (lg_cmp v7 v4.toInt64) = 0 then some (vl, zc1, zm5)
 else none)
 else some (vl, zc1, zm5))
 else none)
set_option maxHeartbeats 4000000 in
set_option maxRecDepth 100000 in
theorem lxc_reverse {p : Program} {l : Launch} {e : Env} {s : State} {m : MethodId} {args : Array Value} {below : List Frame} {meth : Method} {c : Code} {b L K n : Nat} {xs : Nat → Int32} {D : va_G} {q : Nat → ClassId} {q5 : ow_Q5} {vl u w sa : Nat → Nat} {zc zm : ow_MS} {S1 : ow_LwS} {Ts : List Cond} {Q : State → Prop} {H : Heap} {locs : List Loc} {ls : Array Slot} {cells slots : Nat} (hx : p.tables.exec = Jvm.exec) (hb : c.code = cL_law) (hml : c.maxLocals = 8) (hown : s.vm.findClass RL = some m.cls) (hts : ∀ w ∈ Ts, w.before args s = true) (hX : va_X b L xs s s.heap) (hbl : b < s.heap.size) (hZ : ∀ w ∈ wZ, w ∈ Ts) (hL1 : ∀ w ∈ wLL, w ∈ Ts) (hC1 : ∀ w ∈ wC, w ∈ Ts) (hM1 : ∀ w ∈ wM, w ∈ Ts) (hG : lx_G l s D q q5 sa) (hLn : L ≤ 3072) (hn : 6 * n + 6 ≤ L) (hq : lst_reverse vl K (xs (6 * n + 1)) (xs (6 * n + 2)) (xs (6 * n + 3)) (xs (6 * n + 4)) (xs (6 * n + 5)) zc zm = some S1) (hM : lx_M D q q5 s vl u w zc zm H locs) (hl : lv_has ls 8 [(0, .ref b), (1, .ref (u 0)), (2, .ref (w 0)), (3, .ref (u 52001)), (4, .int (nI (6 * n)))]) (hc : cells + 3 ≤ 600002) (hs : slots + 18 ≤ 7302232) (kk : ∀ (zc1 zm1 : ow_MS) (H1 : Heap) (locs1 : List Loc) (ls1 : Array Slot), lx_M D q q5 s vl u w zc1 zm1 H1 locs1 → lv_has ls1 8 [(0, .ref b), (1, .ref (u 0)), (2, .ref (w 0)), (3, .ref (u 52001)), (4, .int (nI (6 * n)))] → some (vl, zc1, zm1) = some S1 → W p l e room_1 s m args below meth c H1 locs1 (cells + 3) (slots + 18) Q (F0 m 2616 ls1 [])) : W p l e room_1 s m args below meth c H locs cells slots Q (F0 m 823 ls []) := by
  have hbA : ¬ lx_A s b := Nat.not_le.mpr hbl
  generalize e1 : xs (6 * n + 1) = x1 at hq
  generalize e2 : xs (6 * n + 2) = x2 at hq
  generalize e3 : xs (6 * n + 3) = x3 at hq
  generalize e4 : xs (6 * n + 4) = x4 at hq
  generalize e5 : xs (6 * n + 5) = x5 at hq
  unfold lst_reverse at hq
  refine lv_aload_n hx hb dz_823 rfl (lv_at hl 1 rfl) ?_
  refine lv_aload_n hx hb dz_824 rfl (lv_at hl 0 rfl) ?_
  refine lv_iload hx hb dz_825 (lv_at hl 4 rfl) ?_
  refine lv_iconst (v := 1) hx hb dz_827 (by decide) ?_
  refine lv_iadd hx hb dz_828 ?_
  refine ow_topi (y := nI (6 * n + 1)) (nI_add (6 * n) 1) ?_
  refine va_sld hx hb hX hbl hbA hM.2.2.2.2.2 (vp_in_nI (n := 6 * n + 1) (N := L) (by omega) (by omega)) dz_829 ?_
  refine ow_topi (y := x1) ((congrArg xs (nI_clamp (by omega))).trans e1) ?_
  refine lv_aload_n hx hb dz_830 rfl (lv_at hl 0 rfl) ?_
  refine lv_iload hx hb dz_831 (lv_at hl 4 rfl) ?_
  refine lv_iconst (v := 2) hx hb dz_833 (by decide) ?_
  refine lv_iadd hx hb dz_834 ?_
  refine ow_topi (y := nI (6 * n + 2)) (nI_add (6 * n) 2) ?_
  refine va_sld hx hb hX hbl hbA hM.2.2.2.2.2 (vp_in_nI (n := 6 * n + 2) (N := L) (by omega) (by omega)) dz_835 ?_
  refine ow_topi (y := x2) ((congrArg xs (nI_clamp (by omega))).trans e2) ?_
  refine lv_aload_n hx hb dz_836 rfl (lv_at hl 3 rfl) ?_
  obtain ⟨v2, zc1, hcq, hq⟩ := tw_cl1 hq
  refine lx_wrap hM (vx_runSX (As := [.ref (u 0), .int x1, .int x2, .ref (u 52001)]) (rest := []) ⟨hx, hb, hml, hown, hts⟩ (kl_L_reverse l D q vl u hM.2.2.1.1 hG.1 sa K 0 x1 x2 (by unfold cw_X11 ci_X11; exact List.mem_singleton.mpr rfl) zc zc1 v2 hcq) (vx_cwSW 4 hts (lx_gS (lx_all wLL_good rfl) (lx_mem hL1 (hZ _ zq_87)) (hZ _ zq_88) (hZ _ zq_89) (hZ _ zq_3) rfl rfl rfl) rfl rfl rfl (by decide +kernel) ⟨(Nat.le_of_ble_eq_true rfl), (Nat.le_of_ble_eq_true rfl)⟩) (lx_preL hG hM) rfl rfl hl.1 rfl (lv_room (Nat.le_of_ble_eq_true rfl)) dz_837 ⟨(by show _ ≤ 600002; omega), (by show _ ≤ 7302232; omega)⟩) (fun H locs hM => ?_)
  refine lv_istore (lv' := [(5, .int v2), (0, .ref b), (1, .ref (u 0)), (2, .ref (w 0)), (3, .ref (u 52001)), (4, .int (nI (6 * n)))]) hx hb dz_840 hl (by decide) rfl (fun ls hl => ?_)
  refine lv_aload_n hx hb dz_842 rfl (lv_at hl 3 rfl) ?_
  refine lv_aload_n hx hb dz_843 rfl (lv_at hl 1 rfl) ?_
  refine lv_iload hx hb dz_844 (lv_at hl 5 rfl) ?_
  refine lv_iconst (v := 1) hx hb dz_846 (by decide) ?_
  refine lv_iadd hx hb dz_847 ?_
  refine ow_topi (y := nI (6 * n + 1)) (nI_add (6 * n) 1) ?_
  refine va_sld hx hb hX hbl hbA hM.2.2.2.2.2 (vp_in_nI (n := 6 * n + 1) (N := L) (by omega) (by omega)) dz_848 ?_
  refine ow_topi (y := x1) ((congrArg xs (nI_clamp (by omega))).trans e1) ?_
  refine lv_aload_n hx hb dz_849 rfl (lv_at hl 1 rfl) ?_
  refine lv_iload hx hb dz_850 (lv_at hl 5 rfl) ?_
  refine lv_iconst (v := 2) hx hb dz_852 (by decide) ?_
  refine lv_iadd hx hb dz_853 ?_
  refine ow_topi (y := nI (6 * n + 2)) (nI_add (6 * n) 2) ?_
  refine va_sld hx hb hX hbl hbA hM.2.2.2.2.2 (vp_in_nI (n := 6 * n + 2) (N := L) (by omega) (by omega)) dz_854 ?_
  refine ow_topi (y := x2) ((congrArg xs (nI_clamp (by omega))).trans e2) ?_
  obtain ⟨v4, zm3, hcq, hq⟩ := tw_cl1 hq
  refine lx_refi hM (va_runV (As := [.int x1, .int x2]) (rest := []) ⟨hx, hb, hml, hown, hts⟩ (km_X13_reverse l D q5 w hM.2.2.2.1.1 K x1 x2 zm zm3 v4 hcq) (cwV 2 hts (lx_gV (lx_all wM_good rfl) (lx_mem hM1 (hZ _ zq_90)) (hZ _ zq_91) (hZ _ zq_92) (hZ _ zq_93) (hZ _ zq_8) rfl rfl rfl rfl) rfl rfl rfl cd_X13_reverse ⟨(Nat.le_of_ble_eq_true rfl), (Nat.le_of_ble_eq_true rfl)⟩) (lx_preM hG hM) rfl rfl hl.1 rfl (lv_room (Nat.le_of_ble_eq_true rfl)) dz_855 ⟨(by show _ ≤ 600002; omega), (by show _ ≤ 7302232; omega)⟩) (fun H locs hM => ?_)
  refine lv_istore (lv' := [(6, .int v4), (5, .int v2), (0, .ref b), (1, .ref (u 0)), (2, .ref (w 0)), (3, .ref (u 52001)), (4, .int (nI (6 * n)))]) hx hb dz_858 hl (by decide) rfl (fun ls hl => ?_)
  refine lv_aload_n hx hb dz_860 rfl (lv_at hl 4 rfl) ?_
  obtain ⟨v6, zm5, hcq, hq⟩ := tw_cl1 hq
  refine lx_refi hM (va_runV (As := []) (rest := []) ⟨hx, hb, hml, hown, hts⟩ (km_X13_thrown l D q5 w hM.2.2.2.1.1 K zm3 zm5 v6 hcq) (cwV 0 hts (lx_gV (lx_all wM_good rfl) (lx_mem hM1 (hZ _ zq_9)) (hZ _ zq_10) (hZ _ zq_11) (hZ _ zq_12) (hZ _ zq_8) rfl rfl rfl rfl) rfl rfl rfl cd_X13_thrown ⟨(Nat.le_of_ble_eq_true rfl), (Nat.le_of_ble_eq_true rfl)⟩) (lx_preM hG hM) rfl rfl hl.1 rfl (lv_room (Nat.le_of_ble_eq_true rfl)) dz_861 ⟨(by show _ ≤ 600002; omega), (by show _ ≤ 7302232; omega)⟩) (fun H locs hM => ?_)
  refine lv_iload hx hb dz_864 (lv_at hl 1 rfl) ?_
  refine lv_icmp_eq (tgt := 871) hx hb dz_866 (by decide) (fun hc9 => ?_) (fun hc9 => ?_)
  · have hq := tw_it hq hc9
    refine lv_iload hx hb dz_871 (lv_at hl 1 rfl) ?_
    refine lv_if_ne (tgt := 888) hx hb dz_873 (by decide) (fun hc9 => ?_) (fun hc9 => ?_)
    · have hq := tw_if hq hc9
      refine lv_goto (tgt := 2616) hx hb dz_888 (by decide) ?_
      exact kk _ _ H locs ls hM (lv_sub hl [2, 3, 4, 5, 6] rfl) hq
    · have hq := tw_it hq hc9
      refine lv_aload_n hx hb dz_876 rfl (lv_at hl 5 rfl) ?_
      refine lv_iconst (v := 0) hx hb dz_877 (by decide) ?_
      refine uw_lald (A := lx_A s) (H0 := s.heap) cX_ok hx hb hG.2.1 ⟨hM.1, hM.2.2.2.2.2⟩ cr_out hq dz_878 (fun v7 hq => ?_)
      refine lv_iload hx hb dz_879 (lv_at hl 0 rfl) ?_
      refine lv_i2l hx hb dz_881 rfl ?_
      refine W.lcmp hx hb dz_882 ?_
      refine lv_if_eq (tgt := 888) hx hb dz_883 (by decide) (fun hc9 => ?_) (fun hc9 => ?_)
      · have hq := tw_it hq hc9
        refine lv_goto (tgt := 2616) hx hb dz_888 (by decide) ?_
        exact kk _ _ H locs ls hM (lv_sub hl [2, 3, 4, 5, 6] rfl) hq
      · have hq := tw_if hq hc9
        refine lv_iconst (v := 0) hx hb dz_886 (by decide) ?_
        exact cw_no hq
  · have hq := tw_if hq hc9
    refine lv_iconst (v := 0) hx hb dz_869 (by decide) ?_
    exact cw_no hq
theorem dz_891 : decode cL_law 891 = .ok (.aload_n 1, 1) := by decide +kernel
theorem dz_892 : decode cL_law 892 = .ok (.aload_n 0, 1) := by decide +kernel
theorem dz_893 : decode cL_law 893 = .ok (.iload 4, 2) := by decide +kernel
theorem dz_895 : decode cL_law 895 = .ok (.iconst 1, 1) := by decide +kernel
theorem dz_896 : decode cL_law 896 = .ok (.iadd, 1) := by decide +kernel
theorem dz_897 : decode cL_law 897 = .ok (.iaload, 1) := by decide +kernel
theorem dz_898 : decode cL_law 898 = .ok (.aload_n 0, 1) := by decide +kernel
theorem dz_899 : decode cL_law 899 = .ok (.iload 4, 2) := by decide +kernel
theorem dz_901 : decode cL_law 901 = .ok (.iconst 2, 1) := by decide +kernel
theorem dz_902 : decode cL_law 902 = .ok (.iadd, 1) := by decide +kernel
theorem dz_903 : decode cL_law 903 = .ok (.iaload, 1) := by decide +kernel
theorem dz_904 : decode cL_law 904 = .ok (.aload_n 3, 1) := by decide +kernel
theorem dz_905 : decode cL_law 905 = .ok (.invokestatic 183, 3) := by decide +kernel
theorem dz_908 : decode cL_law 908 = .ok (.istore 5, 2) := by decide +kernel
theorem dz_910 : decode cL_law 910 = .ok (.aload_n 2, 1) := by decide +kernel
theorem dz_911 : decode cL_law 911 = .ok (.aload_n 0, 1) := by decide +kernel
theorem dz_912 : decode cL_law 912 = .ok (.iload 4, 2) := by decide +kernel
theorem dz_914 : decode cL_law 914 = .ok (.iconst 1, 1) := by decide +kernel
theorem dz_915 : decode cL_law 915 = .ok (.iadd, 1) := by decide +kernel
theorem dz_916 : decode cL_law 916 = .ok (.iaload, 1) := by decide +kernel
theorem dz_917 : decode cL_law 917 = .ok (.aload_n 0, 1) := by decide +kernel
theorem dz_918 : decode cL_law 918 = .ok (.iload 4, 2) := by decide +kernel
theorem dz_920 : decode cL_law 920 = .ok (.iconst 2, 1) := by decide +kernel
theorem dz_921 : decode cL_law 921 = .ok (.iadd, 1) := by decide +kernel
theorem dz_922 : decode cL_law 922 = .ok (.iaload, 1) := by decide +kernel
theorem dz_923 : decode cL_law 923 = .ok (.invokevirtual 185, 3) := by decide +kernel
theorem dz_926 : decode cL_law 926 = .ok (.istore 6, 2) := by decide +kernel
theorem dz_928 : decode cL_law 928 = .ok (.aload_n 2, 1) := by decide +kernel
theorem dz_929 : decode cL_law 929 = .ok (.invokevirtual 137, 3) := by decide +kernel
theorem dz_932 : decode cL_law 932 = .ok (.iload 5, 2) := by decide +kernel
theorem dz_934 : decode cL_law 934 = .ok (.if_icmp .eq 5, 3) := by decide +kernel
theorem dz_937 : decode cL_law 937 = .ok (.iconst 0, 1) := by decide +kernel
theorem dz_938 : decode cL_law 938 = .ok (.ireturn, 1) := by decide +kernel
theorem dz_939 : decode cL_law 939 = .ok (.iload 5, 2) := by decide +kernel
theorem dz_941 : decode cL_law 941 = .ok (.ifCond .ne 15, 3) := by decide +kernel
theorem dz_944 : decode cL_law 944 = .ok (.aload_n 3, 1) := by decide +kernel
theorem dz_945 : decode cL_law 945 = .ok (.iconst 0, 1) := by decide +kernel
theorem dz_946 : decode cL_law 946 = .ok (.laload, 1) := by decide +kernel
theorem dz_947 : decode cL_law 947 = .ok (.iload 6, 2) := by decide +kernel
theorem dz_949 : decode cL_law 949 = .ok (.i2l, 1) := by decide +kernel
theorem dz_950 : decode cL_law 950 = .ok (.lcmp, 1) := by decide +kernel
theorem dz_951 : decode cL_law 951 = .ok (.ifCond .eq 5, 3) := by decide +kernel
theorem dz_954 : decode cL_law 954 = .ok (.iconst 0, 1) := by decide +kernel
theorem dz_955 : decode cL_law 955 = .ok (.ireturn, 1) := by decide +kernel
theorem dz_956 : decode cL_law 956 = .ok (.goto 1660, 3) := by decide +kernel
def lst_change (vl : Nat → Nat) (K : Nat) (x1 : Int32) (x2 : Int32) (x3 : Int32) (x4 : Int32) (x5 : Int32) (zc zm : ow_MS) : Option ow_LwS :=
 cs1 (le_L_change vl K 0 x1 x2 zc) fun v2 zc1 => cs1 (qe_X13_change K x1 x2 zm) fun v4 zm3 => cs1 (qe_X13_thrown K zm3) fun v6 zm5 => (if v6 = v2 then (if v2 = 0 then crJ (cX vl) zc1 52001 0 fun v7 => (if (lg_cmp v7 v4.toInt64) = 0 then some (vl, zc1, zm5)
 else none)
 else some (vl, zc1, zm5))
 else none)
set_option maxHeartbeats 4000000 in
set_option maxRecDepth 100000 in
theorem lxc_change {p : Program} {l : Launch} {e : Env} {s : State} {m : MethodId} {args : Array Value} {below : List Frame} {meth : Method} {c : Code} {b L K n : Nat} {xs : Nat → Int32} {D : va_G} {q : Nat → ClassId} {q5 : ow_Q5} {vl u w sa : Nat → Nat} {zc zm : ow_MS} {S1 : ow_LwS} {Ts : List Cond} {Q : State → Prop} {H : Heap} {locs : List Loc} {ls : Array Slot} {cells slots : Nat} (hx : p.tables.exec = Jvm.exec) (hb : c.code = cL_law) (hml : c.maxLocals = 8) (hown : s.vm.findClass RL = some m.cls) (hts : ∀ w ∈ Ts, w.before args s = true) (hX : va_X b L xs s s.heap) (hbl : b < s.heap.size) (hZ : ∀ w ∈ wZ, w ∈ Ts) (hL1 : ∀ w ∈ wLL, w ∈ Ts) (hC1 : ∀ w ∈ wC, w ∈ Ts) (hM1 : ∀ w ∈ wM, w ∈ Ts) (hG : lx_G l s D q q5 sa) (hLn : L ≤ 3072) (hn : 6 * n + 6 ≤ L) (hq : lst_change vl K (xs (6 * n + 1)) (xs (6 * n + 2)) (xs (6 * n + 3)) (xs (6 * n + 4)) (xs (6 * n + 5)) zc zm = some S1) (hM : lx_M D q q5 s vl u w zc zm H locs) (hl : lv_has ls 8 [(0, .ref b), (1, .ref (u 0)), (2, .ref (w 0)), (3, .ref (u 52001)), (4, .int (nI (6 * n)))]) (hc : cells + 3 ≤ 600002) (hs : slots + 18 ≤ 7302232) (kk : ∀ (zc1 zm1 : ow_MS) (H1 : Heap) (locs1 : List Loc) (ls1 : Array Slot), lx_M D q q5 s vl u w zc1 zm1 H1 locs1 → lv_has ls1 8 [(0, .ref b), (1, .ref (u 0)), (2, .ref (w 0)), (3, .ref (u 52001)), (4, .int (nI (6 * n)))] → some (vl, zc1, zm1) = some S1 → W p l e room_1 s m args below meth c H1 locs1 (cells + 3) (slots + 18) Q (F0 m 2616 ls1 [])) : W p l e room_1 s m args below meth c H locs cells slots Q (F0 m 891 ls []) := by
  have hbA : ¬ lx_A s b := Nat.not_le.mpr hbl
  generalize e1 : xs (6 * n + 1) = x1 at hq
  generalize e2 : xs (6 * n + 2) = x2 at hq
  generalize e3 : xs (6 * n + 3) = x3 at hq
  generalize e4 : xs (6 * n + 4) = x4 at hq
  generalize e5 : xs (6 * n + 5) = x5 at hq
  unfold lst_change at hq
  refine lv_aload_n hx hb dz_891 rfl (lv_at hl 1 rfl) ?_
  refine lv_aload_n hx hb dz_892 rfl (lv_at hl 0 rfl) ?_
  refine lv_iload hx hb dz_893 (lv_at hl 4 rfl) ?_
  refine lv_iconst (v := 1) hx hb dz_895 (by decide) ?_
  refine lv_iadd hx hb dz_896 ?_
  refine ow_topi (y := nI (6 * n + 1)) (nI_add (6 * n) 1) ?_
  refine va_sld hx hb hX hbl hbA hM.2.2.2.2.2 (vp_in_nI (n := 6 * n + 1) (N := L) (by omega) (by omega)) dz_897 ?_
  refine ow_topi (y := x1) ((congrArg xs (nI_clamp (by omega))).trans e1) ?_
  refine lv_aload_n hx hb dz_898 rfl (lv_at hl 0 rfl) ?_
  refine lv_iload hx hb dz_899 (lv_at hl 4 rfl) ?_
  refine lv_iconst (v := 2) hx hb dz_901 (by decide) ?_
  refine lv_iadd hx hb dz_902 ?_
  refine ow_topi (y := nI (6 * n + 2)) (nI_add (6 * n) 2) ?_
  refine va_sld hx hb hX hbl hbA hM.2.2.2.2.2 (vp_in_nI (n := 6 * n + 2) (N := L) (by omega) (by omega)) dz_903 ?_
  refine ow_topi (y := x2) ((congrArg xs (nI_clamp (by omega))).trans e2) ?_
  refine lv_aload_n hx hb dz_904 rfl (lv_at hl 3 rfl) ?_
  obtain ⟨v2, zc1, hcq, hq⟩ := tw_cl1 hq
  refine lx_wrap hM (vx_runSX (As := [.ref (u 0), .int x1, .int x2, .ref (u 52001)]) (rest := []) ⟨hx, hb, hml, hown, hts⟩ (kl_L_change l D q vl u hM.2.2.1.1 hG.1 sa K 0 x1 x2 (by unfold cw_X11 ci_X11; exact List.mem_singleton.mpr rfl) zc zc1 v2 hcq) (vx_cwSW 4 hts (lx_gS (lx_all wLL_good rfl) (lx_mem hL1 (hZ _ zq_94)) (hZ _ zq_95) (hZ _ zq_96) (hZ _ zq_3) rfl rfl rfl) rfl rfl rfl (by decide +kernel) ⟨(Nat.le_of_ble_eq_true rfl), (Nat.le_of_ble_eq_true rfl)⟩) (lx_preL hG hM) rfl rfl hl.1 rfl (lv_room (Nat.le_of_ble_eq_true rfl)) dz_905 ⟨(by show _ ≤ 600002; omega), (by show _ ≤ 7302232; omega)⟩) (fun H locs hM => ?_)
  refine lv_istore (lv' := [(5, .int v2), (0, .ref b), (1, .ref (u 0)), (2, .ref (w 0)), (3, .ref (u 52001)), (4, .int (nI (6 * n)))]) hx hb dz_908 hl (by decide) rfl (fun ls hl => ?_)
  refine lv_aload_n hx hb dz_910 rfl (lv_at hl 3 rfl) ?_
  refine lv_aload_n hx hb dz_911 rfl (lv_at hl 1 rfl) ?_
  refine lv_iload hx hb dz_912 (lv_at hl 5 rfl) ?_
  refine lv_iconst (v := 1) hx hb dz_914 (by decide) ?_
  refine lv_iadd hx hb dz_915 ?_
  refine ow_topi (y := nI (6 * n + 1)) (nI_add (6 * n) 1) ?_
  refine va_sld hx hb hX hbl hbA hM.2.2.2.2.2 (vp_in_nI (n := 6 * n + 1) (N := L) (by omega) (by omega)) dz_916 ?_
  refine ow_topi (y := x1) ((congrArg xs (nI_clamp (by omega))).trans e1) ?_
  refine lv_aload_n hx hb dz_917 rfl (lv_at hl 1 rfl) ?_
  refine lv_iload hx hb dz_918 (lv_at hl 5 rfl) ?_
  refine lv_iconst (v := 2) hx hb dz_920 (by decide) ?_
  refine lv_iadd hx hb dz_921 ?_
  refine ow_topi (y := nI (6 * n + 2)) (nI_add (6 * n) 2) ?_
  refine va_sld hx hb hX hbl hbA hM.2.2.2.2.2 (vp_in_nI (n := 6 * n + 2) (N := L) (by omega) (by omega)) dz_922 ?_
  refine ow_topi (y := x2) ((congrArg xs (nI_clamp (by omega))).trans e2) ?_
  obtain ⟨v4, zm3, hcq, hq⟩ := tw_cl1 hq
  refine lx_refi hM (va_runV (As := [.int x1, .int x2]) (rest := []) ⟨hx, hb, hml, hown, hts⟩ (km_X13_change l D q5 w hM.2.2.2.1.1 K x1 x2 zm zm3 v4 hcq) (cwV 2 hts (lx_gV (lx_all wM_good rfl) (lx_mem hM1 (hZ _ zq_97)) (hZ _ zq_98) (hZ _ zq_99) (hZ _ zq_100) (hZ _ zq_8) rfl rfl rfl rfl) rfl rfl rfl cd_X13_change ⟨(Nat.le_of_ble_eq_true rfl), (Nat.le_of_ble_eq_true rfl)⟩) (lx_preM hG hM) rfl rfl hl.1 rfl (lv_room (Nat.le_of_ble_eq_true rfl)) dz_923 ⟨(by show _ ≤ 600002; omega), (by show _ ≤ 7302232; omega)⟩) (fun H locs hM => ?_)
  refine lv_istore (lv' := [(6, .int v4), (5, .int v2), (0, .ref b), (1, .ref (u 0)), (2, .ref (w 0)), (3, .ref (u 52001)), (4, .int (nI (6 * n)))]) hx hb dz_926 hl (by decide) rfl (fun ls hl => ?_)
  refine lv_aload_n hx hb dz_928 rfl (lv_at hl 4 rfl) ?_
  obtain ⟨v6, zm5, hcq, hq⟩ := tw_cl1 hq
  refine lx_refi hM (va_runV (As := []) (rest := []) ⟨hx, hb, hml, hown, hts⟩ (km_X13_thrown l D q5 w hM.2.2.2.1.1 K zm3 zm5 v6 hcq) (cwV 0 hts (lx_gV (lx_all wM_good rfl) (lx_mem hM1 (hZ _ zq_9)) (hZ _ zq_10) (hZ _ zq_11) (hZ _ zq_12) (hZ _ zq_8) rfl rfl rfl rfl) rfl rfl rfl cd_X13_thrown ⟨(Nat.le_of_ble_eq_true rfl), (Nat.le_of_ble_eq_true rfl)⟩) (lx_preM hG hM) rfl rfl hl.1 rfl (lv_room (Nat.le_of_ble_eq_true rfl)) dz_929 ⟨(by show _ ≤ 600002; omega), (by show _ ≤ 7302232; omega)⟩) (fun H locs hM => ?_)
  refine lv_iload hx hb dz_932 (lv_at hl 1 rfl) ?_
  refine lv_icmp_eq (tgt := 939) hx hb dz_934 (by decide) (fun hc9 => ?_) (fun hc9 => ?_)
  · have hq := tw_it hq hc9
    refine lv_iload hx hb dz_939 (lv_at hl 1 rfl) ?_
    refine lv_if_ne (tgt := 956) hx hb dz_941 (by decide) (fun hc9 => ?_) (fun hc9 => ?_)
    · have hq := tw_if hq hc9
      refine lv_goto (tgt := 2616) hx hb dz_956 (by decide) ?_
      exact kk _ _ H locs ls hM (lv_sub hl [2, 3, 4, 5, 6] rfl) hq
    · have hq := tw_it hq hc9
      refine lv_aload_n hx hb dz_944 rfl (lv_at hl 5 rfl) ?_
      refine lv_iconst (v := 0) hx hb dz_945 (by decide) ?_
      refine uw_lald (A := lx_A s) (H0 := s.heap) cX_ok hx hb hG.2.1 ⟨hM.1, hM.2.2.2.2.2⟩ cr_out hq dz_946 (fun v7 hq => ?_)
      refine lv_iload hx hb dz_947 (lv_at hl 0 rfl) ?_
      refine lv_i2l hx hb dz_949 rfl ?_
      refine W.lcmp hx hb dz_950 ?_
      refine lv_if_eq (tgt := 956) hx hb dz_951 (by decide) (fun hc9 => ?_) (fun hc9 => ?_)
      · have hq := tw_it hq hc9
        refine lv_goto (tgt := 2616) hx hb dz_956 (by decide) ?_
        exact kk _ _ H locs ls hM (lv_sub hl [2, 3, 4, 5, 6] rfl) hq
      · have hq := tw_if hq hc9
        refine lv_iconst (v := 0) hx hb dz_954 (by decide) ?_
        exact cw_no hq
  · have hq := tw_if hq hc9
    refine lv_iconst (v := 0) hx hb dz_937 (by decide) ?_
    exact cw_no hq
theorem dz_959 : decode cL_law 959 = .ok (.aload_n 1, 1) := by decide +kernel
theorem dz_960 : decode cL_law 960 = .ok (.aload_n 0, 1) := by decide +kernel
theorem dz_961 : decode cL_law 961 = .ok (.iload 4, 2) := by decide +kernel
theorem dz_963 : decode cL_law 963 = .ok (.iconst 1, 1) := by decide +kernel
theorem dz_964 : decode cL_law 964 = .ok (.iadd, 1) := by decide +kernel
theorem dz_965 : decode cL_law 965 = .ok (.iaload, 1) := by decide +kernel
theorem dz_966 : decode cL_law 966 = .ok (.aload_n 0, 1) := by decide +kernel
theorem dz_967 : decode cL_law 967 = .ok (.iload 4, 2) := by decide +kernel
theorem dz_969 : decode cL_law 969 = .ok (.iconst 2, 1) := by decide +kernel
theorem dz_970 : decode cL_law 970 = .ok (.iadd, 1) := by decide +kernel
theorem dz_971 : decode cL_law 971 = .ok (.iaload, 1) := by decide +kernel
theorem dz_972 : decode cL_law 972 = .ok (.aload_n 3, 1) := by decide +kernel
theorem dz_973 : decode cL_law 973 = .ok (.invokestatic 186, 3) := by decide +kernel
theorem dz_976 : decode cL_law 976 = .ok (.istore 5, 2) := by decide +kernel
theorem dz_978 : decode cL_law 978 = .ok (.aload_n 2, 1) := by decide +kernel
theorem dz_979 : decode cL_law 979 = .ok (.aload_n 0, 1) := by decide +kernel
theorem dz_980 : decode cL_law 980 = .ok (.iload 4, 2) := by decide +kernel
theorem dz_982 : decode cL_law 982 = .ok (.iconst 1, 1) := by decide +kernel
theorem dz_983 : decode cL_law 983 = .ok (.iadd, 1) := by decide +kernel
theorem dz_984 : decode cL_law 984 = .ok (.iaload, 1) := by decide +kernel
theorem dz_985 : decode cL_law 985 = .ok (.aload_n 0, 1) := by decide +kernel
theorem dz_986 : decode cL_law 986 = .ok (.iload 4, 2) := by decide +kernel
theorem dz_988 : decode cL_law 988 = .ok (.iconst 2, 1) := by decide +kernel
theorem dz_989 : decode cL_law 989 = .ok (.iadd, 1) := by decide +kernel
theorem dz_990 : decode cL_law 990 = .ok (.iaload, 1) := by decide +kernel
theorem dz_991 : decode cL_law 991 = .ok (.invokevirtual 188, 3) := by decide +kernel
theorem dz_994 : decode cL_law 994 = .ok (.istore 6, 2) := by decide +kernel
theorem dz_996 : decode cL_law 996 = .ok (.aload_n 2, 1) := by decide +kernel
theorem dz_997 : decode cL_law 997 = .ok (.invokevirtual 137, 3) := by decide +kernel
theorem dz_1000 : decode cL_law 1000 = .ok (.iload 5, 2) := by decide +kernel
theorem dz_1002 : decode cL_law 1002 = .ok (.if_icmp .eq 5, 3) := by decide +kernel
theorem dz_1005 : decode cL_law 1005 = .ok (.iconst 0, 1) := by decide +kernel
theorem dz_1006 : decode cL_law 1006 = .ok (.ireturn, 1) := by decide +kernel
theorem dz_1007 : decode cL_law 1007 = .ok (.iload 5, 2) := by decide +kernel
theorem dz_1009 : decode cL_law 1009 = .ok (.ifCond .ne 15, 3) := by decide +kernel
theorem dz_1012 : decode cL_law 1012 = .ok (.aload_n 3, 1) := by decide +kernel
theorem dz_1013 : decode cL_law 1013 = .ok (.iconst 0, 1) := by decide +kernel
theorem dz_1014 : decode cL_law 1014 = .ok (.laload, 1) := by decide +kernel
theorem dz_1015 : decode cL_law 1015 = .ok (.iload 6, 2) := by decide +kernel
theorem dz_1017 : decode cL_law 1017 = .ok (.i2l, 1) := by decide +kernel
theorem dz_1018 : decode cL_law 1018 = .ok (.lcmp, 1) := by decide +kernel
theorem dz_1019 : decode cL_law 1019 = .ok (.ifCond .eq 5, 3) := by decide +kernel
theorem dz_1022 : decode cL_law 1022 = .ok (.iconst 0, 1) := by decide +kernel
theorem dz_1023 : decode cL_law 1023 = .ok (.ireturn, 1) := by decide +kernel
theorem dz_1024 : decode cL_law 1024 = .ok (.goto 1592, 3) := by decide +kernel
def lst_smooth (vl : Nat → Nat) (K : Nat) (x1 : Int32) (x2 : Int32) (x3 : Int32) (x4 : Int32) (x5 : Int32) (zc zm : ow_MS) : Option ow_LwS :=
 cs1 (le_L_smooth vl K 0 x1 x2 zc) fun v2 zc1 => cs1 (qe_X13_smooth K x1 x2 zm) fun v4 zm3 => cs1 (qe_X13_thrown K zm3) fun v6 zm5 => (if v6 = v2 then (if v2 = 0 then crJ (cX vl) zc1 52001 0 fun v7 => (if (lg_cmp v7 v4.toInt64) = 0 then some (vl, zc1, zm5)
 else none)
 else some (vl, zc1, zm5))
 else none)
set_option maxHeartbeats 4000000 in
set_option maxRecDepth 100000 in
theorem lxc_smooth {p : Program} {l : Launch} {e : Env} {s : State} {m : MethodId} {args : Array Value} {below : List Frame} {meth : Method} {c : Code} {b L K n : Nat} {xs : Nat → Int32} {D : va_G} {q : Nat → ClassId} {q5 : ow_Q5} {vl u w sa : Nat → Nat} {zc zm : ow_MS} {S1 : ow_LwS} {Ts : List Cond} {Q : State → Prop} {H : Heap} {locs : List Loc} {ls : Array Slot} {cells slots : Nat} (hx : p.tables.exec = Jvm.exec) (hb : c.code = cL_law) (hml : c.maxLocals = 8) (hown : s.vm.findClass RL = some m.cls) (hts : ∀ w ∈ Ts, w.before args s = true) (hX : va_X b L xs s s.heap) (hbl : b < s.heap.size) (hZ : ∀ w ∈ wZ, w ∈ Ts) (hL1 : ∀ w ∈ wLL, w ∈ Ts) (hC1 : ∀ w ∈ wC, w ∈ Ts) (hM1 : ∀ w ∈ wM, w ∈ Ts) (hG : lx_G l s D q q5 sa) (hLn : L ≤ 3072) (hn : 6 * n + 6 ≤ L) (hq : lst_smooth vl K (xs (6 * n + 1)) (xs (6 * n + 2)) (xs (6 * n + 3)) (xs (6 * n + 4)) (xs (6 * n + 5)) zc zm = some S1) (hM : lx_M D q q5 s vl u w zc zm H locs) (hl : lv_has ls 8 [(0, .ref b), (1, .ref (u 0)), (2, .ref (w 0)), (3, .ref (u 52001)), (4, .int (nI (6 * n)))]) (hc : cells + 4 ≤ 600002) (hs : slots + 24 ≤ 7302232) (kk : ∀ (zc1 zm1 : ow_MS) (H1 : Heap) (locs1 : List Loc) (ls1 : Array Slot), lx_M D q q5 s vl u w zc1 zm1 H1 locs1 → lv_has ls1 8 [(0, .ref b), (1, .ref (u 0)), (2, .ref (w 0)), (3, .ref (u 52001)), (4, .int (nI (6 * n)))] → some (vl, zc1, zm1) = some S1 → W p l e room_1 s m args below meth c H1 locs1 (cells + 4) (slots + 24) Q (F0 m 2616 ls1 [])) : W p l e room_1 s m args below meth c H locs cells slots Q (F0 m 959 ls []) := by
  have hbA : ¬ lx_A s b := Nat.not_le.mpr hbl
  generalize e1 : xs (6 * n + 1) = x1 at hq
  generalize e2 : xs (6 * n + 2) = x2 at hq
  generalize e3 : xs (6 * n + 3) = x3 at hq
  generalize e4 : xs (6 * n + 4) = x4 at hq
  generalize e5 : xs (6 * n + 5) = x5 at hq
  unfold lst_smooth at hq
  refine lv_aload_n hx hb dz_959 rfl (lv_at hl 1 rfl) ?_
  refine lv_aload_n hx hb dz_960 rfl (lv_at hl 0 rfl) ?_
  refine lv_iload hx hb dz_961 (lv_at hl 4 rfl) ?_
  refine lv_iconst (v := 1) hx hb dz_963 (by decide) ?_
  refine lv_iadd hx hb dz_964 ?_
  refine ow_topi (y := nI (6 * n + 1)) (nI_add (6 * n) 1) ?_
  refine va_sld hx hb hX hbl hbA hM.2.2.2.2.2 (vp_in_nI (n := 6 * n + 1) (N := L) (by omega) (by omega)) dz_965 ?_
  refine ow_topi (y := x1) ((congrArg xs (nI_clamp (by omega))).trans e1) ?_
  refine lv_aload_n hx hb dz_966 rfl (lv_at hl 0 rfl) ?_
  refine lv_iload hx hb dz_967 (lv_at hl 4 rfl) ?_
  refine lv_iconst (v := 2) hx hb dz_969 (by decide) ?_
  refine lv_iadd hx hb dz_970 ?_
  refine ow_topi (y := nI (6 * n + 2)) (nI_add (6 * n) 2) ?_
  refine va_sld hx hb hX hbl hbA hM.2.2.2.2.2 (vp_in_nI (n := 6 * n + 2) (N := L) (by omega) (by omega)) dz_971 ?_
  refine ow_topi (y := x2) ((congrArg xs (nI_clamp (by omega))).trans e2) ?_
  refine lv_aload_n hx hb dz_972 rfl (lv_at hl 3 rfl) ?_
  obtain ⟨v2, zc1, hcq, hq⟩ := tw_cl1 hq
  refine lx_wrap hM (vx_runSX (As := [.ref (u 0), .int x1, .int x2, .ref (u 52001)]) (rest := []) ⟨hx, hb, hml, hown, hts⟩ (kl_L_smooth l D q vl u hM.2.2.1.1 hG.1 sa K 0 x1 x2 (by unfold cw_X11 ci_X11; exact List.mem_singleton.mpr rfl) zc zc1 v2 hcq) (vx_cwSW 4 hts (lx_gS (lx_all wLL_good rfl) (lx_mem hL1 (hZ _ zq_101)) (hZ _ zq_102) (hZ _ zq_103) (hZ _ zq_3) rfl rfl rfl) rfl rfl rfl (by decide +kernel) ⟨(Nat.le_of_ble_eq_true rfl), (Nat.le_of_ble_eq_true rfl)⟩) (lx_preL hG hM) rfl rfl hl.1 rfl (lv_room (Nat.le_of_ble_eq_true rfl)) dz_973 ⟨(by show _ ≤ 600002; omega), (by show _ ≤ 7302232; omega)⟩) (fun H locs hM => ?_)
  refine lv_istore (lv' := [(5, .int v2), (0, .ref b), (1, .ref (u 0)), (2, .ref (w 0)), (3, .ref (u 52001)), (4, .int (nI (6 * n)))]) hx hb dz_976 hl (by decide) rfl (fun ls hl => ?_)
  refine lv_aload_n hx hb dz_978 rfl (lv_at hl 3 rfl) ?_
  refine lv_aload_n hx hb dz_979 rfl (lv_at hl 1 rfl) ?_
  refine lv_iload hx hb dz_980 (lv_at hl 5 rfl) ?_
  refine lv_iconst (v := 1) hx hb dz_982 (by decide) ?_
  refine lv_iadd hx hb dz_983 ?_
  refine ow_topi (y := nI (6 * n + 1)) (nI_add (6 * n) 1) ?_
  refine va_sld hx hb hX hbl hbA hM.2.2.2.2.2 (vp_in_nI (n := 6 * n + 1) (N := L) (by omega) (by omega)) dz_984 ?_
  refine ow_topi (y := x1) ((congrArg xs (nI_clamp (by omega))).trans e1) ?_
  refine lv_aload_n hx hb dz_985 rfl (lv_at hl 1 rfl) ?_
  refine lv_iload hx hb dz_986 (lv_at hl 5 rfl) ?_
  refine lv_iconst (v := 2) hx hb dz_988 (by decide) ?_
  refine lv_iadd hx hb dz_989 ?_
  refine ow_topi (y := nI (6 * n + 2)) (nI_add (6 * n) 2) ?_
  refine va_sld hx hb hX hbl hbA hM.2.2.2.2.2 (vp_in_nI (n := 6 * n + 2) (N := L) (by omega) (by omega)) dz_990 ?_
  refine ow_topi (y := x2) ((congrArg xs (nI_clamp (by omega))).trans e2) ?_
  obtain ⟨v4, zm3, hcq, hq⟩ := tw_cl1 hq
  refine lx_refi hM (va_runV (As := [.int x1, .int x2]) (rest := []) ⟨hx, hb, hml, hown, hts⟩ (km_X13_smooth l D q5 w hM.2.2.2.1.1 K x1 x2 zm zm3 v4 hcq) (cwV 2 hts (lx_gV (lx_all wM_good rfl) (lx_mem hM1 (hZ _ zq_104)) (hZ _ zq_105) (hZ _ zq_106) (hZ _ zq_107) (hZ _ zq_8) rfl rfl rfl rfl) rfl rfl rfl cd_X13_smooth ⟨(Nat.le_of_ble_eq_true rfl), (Nat.le_of_ble_eq_true rfl)⟩) (lx_preM hG hM) rfl rfl hl.1 rfl (lv_room (Nat.le_of_ble_eq_true rfl)) dz_991 ⟨(by show _ ≤ 600002; omega), (by show _ ≤ 7302232; omega)⟩) (fun H locs hM => ?_)
  refine lv_istore (lv' := [(6, .int v4), (5, .int v2), (0, .ref b), (1, .ref (u 0)), (2, .ref (w 0)), (3, .ref (u 52001)), (4, .int (nI (6 * n)))]) hx hb dz_994 hl (by decide) rfl (fun ls hl => ?_)
  refine lv_aload_n hx hb dz_996 rfl (lv_at hl 4 rfl) ?_
  obtain ⟨v6, zm5, hcq, hq⟩ := tw_cl1 hq
  refine lx_refi hM (va_runV (As := []) (rest := []) ⟨hx, hb, hml, hown, hts⟩ (km_X13_thrown l D q5 w hM.2.2.2.1.1 K zm3 zm5 v6 hcq) (cwV 0 hts (lx_gV (lx_all wM_good rfl) (lx_mem hM1 (hZ _ zq_9)) (hZ _ zq_10) (hZ _ zq_11) (hZ _ zq_12) (hZ _ zq_8) rfl rfl rfl rfl) rfl rfl rfl cd_X13_thrown ⟨(Nat.le_of_ble_eq_true rfl), (Nat.le_of_ble_eq_true rfl)⟩) (lx_preM hG hM) rfl rfl hl.1 rfl (lv_room (Nat.le_of_ble_eq_true rfl)) dz_997 ⟨(by show _ ≤ 600002; omega), (by show _ ≤ 7302232; omega)⟩) (fun H locs hM => ?_)
  refine lv_iload hx hb dz_1000 (lv_at hl 1 rfl) ?_
  refine lv_icmp_eq (tgt := 1007) hx hb dz_1002 (by decide) (fun hc9 => ?_) (fun hc9 => ?_)
  · have hq := tw_it hq hc9
    refine lv_iload hx hb dz_1007 (lv_at hl 1 rfl) ?_
    refine lv_if_ne (tgt := 1024) hx hb dz_1009 (by decide) (fun hc9 => ?_) (fun hc9 => ?_)
    · have hq := tw_if hq hc9
      refine lv_goto (tgt := 2616) hx hb dz_1024 (by decide) ?_
      exact kk _ _ H locs ls hM (lv_sub hl [2, 3, 4, 5, 6] rfl) hq
    · have hq := tw_it hq hc9
      refine lv_aload_n hx hb dz_1012 rfl (lv_at hl 5 rfl) ?_
      refine lv_iconst (v := 0) hx hb dz_1013 (by decide) ?_
      refine uw_lald (A := lx_A s) (H0 := s.heap) cX_ok hx hb hG.2.1 ⟨hM.1, hM.2.2.2.2.2⟩ cr_out hq dz_1014 (fun v7 hq => ?_)
      refine lv_iload hx hb dz_1015 (lv_at hl 0 rfl) ?_
      refine lv_i2l hx hb dz_1017 rfl ?_
      refine W.lcmp hx hb dz_1018 ?_
      refine lv_if_eq (tgt := 1024) hx hb dz_1019 (by decide) (fun hc9 => ?_) (fun hc9 => ?_)
      · have hq := tw_it hq hc9
        refine lv_goto (tgt := 2616) hx hb dz_1024 (by decide) ?_
        exact kk _ _ H locs ls hM (lv_sub hl [2, 3, 4, 5, 6] rfl) hq
      · have hq := tw_if hq hc9
        refine lv_iconst (v := 0) hx hb dz_1022 (by decide) ?_
        exact cw_no hq
  · have hq := tw_if hq hc9
    refine lv_iconst (v := 0) hx hb dz_1005 (by decide) ?_
    exact cw_no hq
theorem dz_1027 : decode cL_law 1027 = .ok (.aload_n 1, 1) := by decide +kernel
theorem dz_1028 : decode cL_law 1028 = .ok (.aload_n 0, 1) := by decide +kernel
theorem dz_1029 : decode cL_law 1029 = .ok (.iload 4, 2) := by decide +kernel
theorem dz_1031 : decode cL_law 1031 = .ok (.iconst 1, 1) := by decide +kernel
theorem dz_1032 : decode cL_law 1032 = .ok (.iadd, 1) := by decide +kernel
theorem dz_1033 : decode cL_law 1033 = .ok (.iaload, 1) := by decide +kernel
theorem dz_1034 : decode cL_law 1034 = .ok (.aload_n 0, 1) := by decide +kernel
theorem dz_1035 : decode cL_law 1035 = .ok (.iload 4, 2) := by decide +kernel
theorem dz_1037 : decode cL_law 1037 = .ok (.iconst 2, 1) := by decide +kernel
theorem dz_1038 : decode cL_law 1038 = .ok (.iadd, 1) := by decide +kernel
theorem dz_1039 : decode cL_law 1039 = .ok (.iaload, 1) := by decide +kernel
theorem dz_1040 : decode cL_law 1040 = .ok (.aload_n 3, 1) := by decide +kernel
theorem dz_1041 : decode cL_law 1041 = .ok (.invokestatic 189, 3) := by decide +kernel
theorem dz_1044 : decode cL_law 1044 = .ok (.istore 5, 2) := by decide +kernel
theorem dz_1046 : decode cL_law 1046 = .ok (.aload_n 2, 1) := by decide +kernel
theorem dz_1047 : decode cL_law 1047 = .ok (.aload_n 0, 1) := by decide +kernel
theorem dz_1048 : decode cL_law 1048 = .ok (.iload 4, 2) := by decide +kernel
theorem dz_1050 : decode cL_law 1050 = .ok (.iconst 1, 1) := by decide +kernel
theorem dz_1051 : decode cL_law 1051 = .ok (.iadd, 1) := by decide +kernel
theorem dz_1052 : decode cL_law 1052 = .ok (.iaload, 1) := by decide +kernel
theorem dz_1053 : decode cL_law 1053 = .ok (.aload_n 0, 1) := by decide +kernel
theorem dz_1054 : decode cL_law 1054 = .ok (.iload 4, 2) := by decide +kernel
theorem dz_1056 : decode cL_law 1056 = .ok (.iconst 2, 1) := by decide +kernel
theorem dz_1057 : decode cL_law 1057 = .ok (.iadd, 1) := by decide +kernel
theorem dz_1058 : decode cL_law 1058 = .ok (.iaload, 1) := by decide +kernel
theorem dz_1059 : decode cL_law 1059 = .ok (.invokevirtual 191, 3) := by decide +kernel
theorem dz_1062 : decode cL_law 1062 = .ok (.istore 6, 2) := by decide +kernel
theorem dz_1064 : decode cL_law 1064 = .ok (.aload_n 2, 1) := by decide +kernel
theorem dz_1065 : decode cL_law 1065 = .ok (.invokevirtual 137, 3) := by decide +kernel
theorem dz_1068 : decode cL_law 1068 = .ok (.iload 5, 2) := by decide +kernel
theorem dz_1070 : decode cL_law 1070 = .ok (.if_icmp .eq 5, 3) := by decide +kernel
theorem dz_1073 : decode cL_law 1073 = .ok (.iconst 0, 1) := by decide +kernel
theorem dz_1074 : decode cL_law 1074 = .ok (.ireturn, 1) := by decide +kernel
theorem dz_1075 : decode cL_law 1075 = .ok (.iload 5, 2) := by decide +kernel
theorem dz_1077 : decode cL_law 1077 = .ok (.ifCond .ne 15, 3) := by decide +kernel
theorem dz_1080 : decode cL_law 1080 = .ok (.aload_n 3, 1) := by decide +kernel
theorem dz_1081 : decode cL_law 1081 = .ok (.iconst 0, 1) := by decide +kernel
theorem dz_1082 : decode cL_law 1082 = .ok (.laload, 1) := by decide +kernel
theorem dz_1083 : decode cL_law 1083 = .ok (.iload 6, 2) := by decide +kernel
theorem dz_1085 : decode cL_law 1085 = .ok (.i2l, 1) := by decide +kernel
theorem dz_1086 : decode cL_law 1086 = .ok (.lcmp, 1) := by decide +kernel
theorem dz_1087 : decode cL_law 1087 = .ok (.ifCond .eq 5, 3) := by decide +kernel
theorem dz_1090 : decode cL_law 1090 = .ok (.iconst 0, 1) := by decide +kernel
theorem dz_1091 : decode cL_law 1091 = .ok (.ireturn, 1) := by decide +kernel
theorem dz_1092 : decode cL_law 1092 = .ok (.goto 1524, 3) := by decide +kernel
def lst_apart (vl : Nat → Nat) (K : Nat) (x1 : Int32) (x2 : Int32) (x3 : Int32) (x4 : Int32) (x5 : Int32) (zc zm : ow_MS) : Option ow_LwS :=
 cs1 (le_L_apart vl K 0 x1 x2 zc) fun v2 zc1 => cs1 (qe_X13_apart K x1 x2 zm) fun v4 zm3 => cs1 (qe_X13_thrown K zm3) fun v6 zm5 => (if v6 = v2 then (if v2 = 0 then crJ (cX vl) zc1 52001 0 fun v7 => (if (lg_cmp v7 v4.toInt64) = 0 then some (vl, zc1, zm5)
 else none)
 else some (vl, zc1, zm5))
 else none)
set_option maxHeartbeats 4000000 in
set_option maxRecDepth 100000 in
theorem lxc_apart {p : Program} {l : Launch} {e : Env} {s : State} {m : MethodId} {args : Array Value} {below : List Frame} {meth : Method} {c : Code} {b L K n : Nat} {xs : Nat → Int32} {D : va_G} {q : Nat → ClassId} {q5 : ow_Q5} {vl u w sa : Nat → Nat} {zc zm : ow_MS} {S1 : ow_LwS} {Ts : List Cond} {Q : State → Prop} {H : Heap} {locs : List Loc} {ls : Array Slot} {cells slots : Nat} (hx : p.tables.exec = Jvm.exec) (hb : c.code = cL_law) (hml : c.maxLocals = 8) (hown : s.vm.findClass RL = some m.cls) (hts : ∀ w ∈ Ts, w.before args s = true) (hX : va_X b L xs s s.heap) (hbl : b < s.heap.size) (hZ : ∀ w ∈ wZ, w ∈ Ts) (hL1 : ∀ w ∈ wLL, w ∈ Ts) (hC1 : ∀ w ∈ wC, w ∈ Ts) (hM1 : ∀ w ∈ wM, w ∈ Ts) (hG : lx_G l s D q q5 sa) (hLn : L ≤ 3072) (hn : 6 * n + 6 ≤ L) (hq : lst_apart vl K (xs (6 * n + 1)) (xs (6 * n + 2)) (xs (6 * n + 3)) (xs (6 * n + 4)) (xs (6 * n + 5)) zc zm = some S1) (hM : lx_M D q q5 s vl u w zc zm H locs) (hl : lv_has ls 8 [(0, .ref b), (1, .ref (u 0)), (2, .ref (w 0)), (3, .ref (u 52001)), (4, .int (nI (6 * n)))]) (hc : cells + 4 ≤ 600002) (hs : slots + 24 ≤ 7302232) (kk : ∀ (zc1 zm1 : ow_MS) (H1 : Heap) (locs1 : List Loc) (ls1 : Array Slot), lx_M D q q5 s vl u w zc1 zm1 H1 locs1 → lv_has ls1 8 [(0, .ref b), (1, .ref (u 0)), (2, .ref (w 0)), (3, .ref (u 52001)), (4, .int (nI (6 * n)))] → some (vl, zc1, zm1) = some S1 → W p l e room_1 s m args below meth c H1 locs1 (cells + 4) (slots + 24) Q (F0 m 2616 ls1 [])) : W p l e room_1 s m args below meth c H locs cells slots Q (F0 m 1027 ls []) := by
  have hbA : ¬ lx_A s b := Nat.not_le.mpr hbl
  generalize e1 : xs (6 * n + 1) = x1 at hq
  generalize e2 : xs (6 * n + 2) = x2 at hq
  generalize e3 : xs (6 * n + 3) = x3 at hq
  generalize e4 : xs (6 * n + 4) = x4 at hq
  generalize e5 : xs (6 * n + 5) = x5 at hq
  unfold lst_apart at hq
  refine lv_aload_n hx hb dz_1027 rfl (lv_at hl 1 rfl) ?_
  refine lv_aload_n hx hb dz_1028 rfl (lv_at hl 0 rfl) ?_
  refine lv_iload hx hb dz_1029 (lv_at hl 4 rfl) ?_
  refine lv_iconst (v := 1) hx hb dz_1031 (by decide) ?_
  refine lv_iadd hx hb dz_1032 ?_
  refine ow_topi (y := nI (6 * n + 1)) (nI_add (6 * n) 1) ?_
  refine va_sld hx hb hX hbl hbA hM.2.2.2.2.2 (vp_in_nI (n := 6 * n + 1) (N := L) (by omega) (by omega)) dz_1033 ?_
  refine ow_topi (y := x1) ((congrArg xs (nI_clamp (by omega))).trans e1) ?_
  refine lv_aload_n hx hb dz_1034 rfl (lv_at hl 0 rfl) ?_
  refine lv_iload hx hb dz_1035 (lv_at hl 4 rfl) ?_
  refine lv_iconst (v := 2) hx hb dz_1037 (by decide) ?_
  refine lv_iadd hx hb dz_1038 ?_
  refine ow_topi (y := nI (6 * n + 2)) (nI_add (6 * n) 2) ?_
  refine va_sld hx hb hX hbl hbA hM.2.2.2.2.2 (vp_in_nI (n := 6 * n + 2) (N := L) (by omega) (by omega)) dz_1039 ?_
  refine ow_topi (y := x2) ((congrArg xs (nI_clamp (by omega))).trans e2) ?_
  refine lv_aload_n hx hb dz_1040 rfl (lv_at hl 3 rfl) ?_
  obtain ⟨v2, zc1, hcq, hq⟩ := tw_cl1 hq
  refine lx_wrap hM (vx_runSX (As := [.ref (u 0), .int x1, .int x2, .ref (u 52001)]) (rest := []) ⟨hx, hb, hml, hown, hts⟩ (kl_L_apart l D q vl u hM.2.2.1.1 hG.1 sa K 0 x1 x2 (by unfold cw_X11 ci_X11; exact List.mem_singleton.mpr rfl) zc zc1 v2 hcq) (vx_cwSW 4 hts (lx_gS (lx_all wLL_good rfl) (lx_mem hL1 (hZ _ zq_108)) (hZ _ zq_109) (hZ _ zq_110) (hZ _ zq_3) rfl rfl rfl) rfl rfl rfl (by decide +kernel) ⟨(Nat.le_of_ble_eq_true rfl), (Nat.le_of_ble_eq_true rfl)⟩) (lx_preL hG hM) rfl rfl hl.1 rfl (lv_room (Nat.le_of_ble_eq_true rfl)) dz_1041 ⟨(by show _ ≤ 600002; omega), (by show _ ≤ 7302232; omega)⟩) (fun H locs hM => ?_)
  refine lv_istore (lv' := [(5, .int v2), (0, .ref b), (1, .ref (u 0)), (2, .ref (w 0)), (3, .ref (u 52001)), (4, .int (nI (6 * n)))]) hx hb dz_1044 hl (by decide) rfl (fun ls hl => ?_)
  refine lv_aload_n hx hb dz_1046 rfl (lv_at hl 3 rfl) ?_
  refine lv_aload_n hx hb dz_1047 rfl (lv_at hl 1 rfl) ?_
  refine lv_iload hx hb dz_1048 (lv_at hl 5 rfl) ?_
  refine lv_iconst (v := 1) hx hb dz_1050 (by decide) ?_
  refine lv_iadd hx hb dz_1051 ?_
  refine ow_topi (y := nI (6 * n + 1)) (nI_add (6 * n) 1) ?_
  refine va_sld hx hb hX hbl hbA hM.2.2.2.2.2 (vp_in_nI (n := 6 * n + 1) (N := L) (by omega) (by omega)) dz_1052 ?_
  refine ow_topi (y := x1) ((congrArg xs (nI_clamp (by omega))).trans e1) ?_
  refine lv_aload_n hx hb dz_1053 rfl (lv_at hl 1 rfl) ?_
  refine lv_iload hx hb dz_1054 (lv_at hl 5 rfl) ?_
  refine lv_iconst (v := 2) hx hb dz_1056 (by decide) ?_
  refine lv_iadd hx hb dz_1057 ?_
  refine ow_topi (y := nI (6 * n + 2)) (nI_add (6 * n) 2) ?_
  refine va_sld hx hb hX hbl hbA hM.2.2.2.2.2 (vp_in_nI (n := 6 * n + 2) (N := L) (by omega) (by omega)) dz_1058 ?_
  refine ow_topi (y := x2) ((congrArg xs (nI_clamp (by omega))).trans e2) ?_
  obtain ⟨v4, zm3, hcq, hq⟩ := tw_cl1 hq
  refine lx_refi hM (va_runV (As := [.int x1, .int x2]) (rest := []) ⟨hx, hb, hml, hown, hts⟩ (km_X13_apart l D q5 w hM.2.2.2.1.1 K x1 x2 zm zm3 v4 hcq) (cwV 2 hts (lx_gV (lx_all wM_good rfl) (lx_mem hM1 (hZ _ zq_111)) (hZ _ zq_112) (hZ _ zq_113) (hZ _ zq_114) (hZ _ zq_8) rfl rfl rfl rfl) rfl rfl rfl cd_X13_apart ⟨(Nat.le_of_ble_eq_true rfl), (Nat.le_of_ble_eq_true rfl)⟩) (lx_preM hG hM) rfl rfl hl.1 rfl (lv_room (Nat.le_of_ble_eq_true rfl)) dz_1059 ⟨(by show _ ≤ 600002; omega), (by show _ ≤ 7302232; omega)⟩) (fun H locs hM => ?_)
  refine lv_istore (lv' := [(6, .int v4), (5, .int v2), (0, .ref b), (1, .ref (u 0)), (2, .ref (w 0)), (3, .ref (u 52001)), (4, .int (nI (6 * n)))]) hx hb dz_1062 hl (by decide) rfl (fun ls hl => ?_)
  refine lv_aload_n hx hb dz_1064 rfl (lv_at hl 4 rfl) ?_
  obtain ⟨v6, zm5, hcq, hq⟩ := tw_cl1 hq
  refine lx_refi hM (va_runV (As := []) (rest := []) ⟨hx, hb, hml, hown, hts⟩ (km_X13_thrown l D q5 w hM.2.2.2.1.1 K zm3 zm5 v6 hcq) (cwV 0 hts (lx_gV (lx_all wM_good rfl) (lx_mem hM1 (hZ _ zq_9)) (hZ _ zq_10) (hZ _ zq_11) (hZ _ zq_12) (hZ _ zq_8) rfl rfl rfl rfl) rfl rfl rfl cd_X13_thrown ⟨(Nat.le_of_ble_eq_true rfl), (Nat.le_of_ble_eq_true rfl)⟩) (lx_preM hG hM) rfl rfl hl.1 rfl (lv_room (Nat.le_of_ble_eq_true rfl)) dz_1065 ⟨(by show _ ≤ 600002; omega), (by show _ ≤ 7302232; omega)⟩) (fun H locs hM => ?_)
  refine lv_iload hx hb dz_1068 (lv_at hl 1 rfl) ?_
  refine lv_icmp_eq (tgt := 1075) hx hb dz_1070 (by decide) (fun hc9 => ?_) (fun hc9 => ?_)
  · have hq := tw_it hq hc9
    refine lv_iload hx hb dz_1075 (lv_at hl 1 rfl) ?_
    refine lv_if_ne (tgt := 1092) hx hb dz_1077 (by decide) (fun hc9 => ?_) (fun hc9 => ?_)
    · have hq := tw_if hq hc9
      refine lv_goto (tgt := 2616) hx hb dz_1092 (by decide) ?_
      exact kk _ _ H locs ls hM (lv_sub hl [2, 3, 4, 5, 6] rfl) hq
    · have hq := tw_it hq hc9
      refine lv_aload_n hx hb dz_1080 rfl (lv_at hl 5 rfl) ?_
      refine lv_iconst (v := 0) hx hb dz_1081 (by decide) ?_
      refine uw_lald (A := lx_A s) (H0 := s.heap) cX_ok hx hb hG.2.1 ⟨hM.1, hM.2.2.2.2.2⟩ cr_out hq dz_1082 (fun v7 hq => ?_)
      refine lv_iload hx hb dz_1083 (lv_at hl 0 rfl) ?_
      refine lv_i2l hx hb dz_1085 rfl ?_
      refine W.lcmp hx hb dz_1086 ?_
      refine lv_if_eq (tgt := 1092) hx hb dz_1087 (by decide) (fun hc9 => ?_) (fun hc9 => ?_)
      · have hq := tw_it hq hc9
        refine lv_goto (tgt := 2616) hx hb dz_1092 (by decide) ?_
        exact kk _ _ H locs ls hM (lv_sub hl [2, 3, 4, 5, 6] rfl) hq
      · have hq := tw_if hq hc9
        refine lv_iconst (v := 0) hx hb dz_1090 (by decide) ?_
        exact cw_no hq
  · have hq := tw_if hq hc9
    refine lv_iconst (v := 0) hx hb dz_1073 (by decide) ?_
    exact cw_no hq
theorem dz_1095 : decode cL_law 1095 = .ok (.aload_n 1, 1) := by decide +kernel
theorem dz_1096 : decode cL_law 1096 = .ok (.aload_n 0, 1) := by decide +kernel
theorem dz_1097 : decode cL_law 1097 = .ok (.iload 4, 2) := by decide +kernel
theorem dz_1099 : decode cL_law 1099 = .ok (.iconst 1, 1) := by decide +kernel
theorem dz_1100 : decode cL_law 1100 = .ok (.iadd, 1) := by decide +kernel
theorem dz_1101 : decode cL_law 1101 = .ok (.iaload, 1) := by decide +kernel
theorem dz_1102 : decode cL_law 1102 = .ok (.aload_n 0, 1) := by decide +kernel
theorem dz_1103 : decode cL_law 1103 = .ok (.iload 4, 2) := by decide +kernel
theorem dz_1105 : decode cL_law 1105 = .ok (.iconst 2, 1) := by decide +kernel
theorem dz_1106 : decode cL_law 1106 = .ok (.iadd, 1) := by decide +kernel
theorem dz_1107 : decode cL_law 1107 = .ok (.iaload, 1) := by decide +kernel
theorem dz_1108 : decode cL_law 1108 = .ok (.aload_n 0, 1) := by decide +kernel
theorem dz_1109 : decode cL_law 1109 = .ok (.iload 4, 2) := by decide +kernel
theorem dz_1111 : decode cL_law 1111 = .ok (.iconst 3, 1) := by decide +kernel
theorem dz_1112 : decode cL_law 1112 = .ok (.iadd, 1) := by decide +kernel
theorem dz_1113 : decode cL_law 1113 = .ok (.iaload, 1) := by decide +kernel
theorem dz_1114 : decode cL_law 1114 = .ok (.aload_n 0, 1) := by decide +kernel
theorem dz_1115 : decode cL_law 1115 = .ok (.iload 4, 2) := by decide +kernel
theorem dz_1117 : decode cL_law 1117 = .ok (.iconst 4, 1) := by decide +kernel
theorem dz_1118 : decode cL_law 1118 = .ok (.iadd, 1) := by decide +kernel
theorem dz_1119 : decode cL_law 1119 = .ok (.iaload, 1) := by decide +kernel
theorem dz_1120 : decode cL_law 1120 = .ok (.aload_n 3, 1) := by decide +kernel
theorem dz_1121 : decode cL_law 1121 = .ok (.invokestatic 192, 3) := by decide +kernel
theorem dz_1124 : decode cL_law 1124 = .ok (.istore 5, 2) := by decide +kernel
theorem dz_1126 : decode cL_law 1126 = .ok (.aload_n 2, 1) := by decide +kernel
theorem dz_1127 : decode cL_law 1127 = .ok (.aload_n 0, 1) := by decide +kernel
theorem dz_1128 : decode cL_law 1128 = .ok (.iload 4, 2) := by decide +kernel
theorem dz_1130 : decode cL_law 1130 = .ok (.iconst 1, 1) := by decide +kernel
theorem dz_1131 : decode cL_law 1131 = .ok (.iadd, 1) := by decide +kernel
theorem dz_1132 : decode cL_law 1132 = .ok (.iaload, 1) := by decide +kernel
theorem dz_1133 : decode cL_law 1133 = .ok (.aload_n 0, 1) := by decide +kernel
theorem dz_1134 : decode cL_law 1134 = .ok (.iload 4, 2) := by decide +kernel
theorem dz_1136 : decode cL_law 1136 = .ok (.iconst 2, 1) := by decide +kernel
theorem dz_1137 : decode cL_law 1137 = .ok (.iadd, 1) := by decide +kernel
theorem dz_1138 : decode cL_law 1138 = .ok (.iaload, 1) := by decide +kernel
theorem dz_1139 : decode cL_law 1139 = .ok (.aload_n 0, 1) := by decide +kernel
theorem dz_1140 : decode cL_law 1140 = .ok (.iload 4, 2) := by decide +kernel
theorem dz_1142 : decode cL_law 1142 = .ok (.iconst 3, 1) := by decide +kernel
theorem dz_1143 : decode cL_law 1143 = .ok (.iadd, 1) := by decide +kernel
theorem dz_1144 : decode cL_law 1144 = .ok (.iaload, 1) := by decide +kernel
theorem dz_1145 : decode cL_law 1145 = .ok (.aload_n 0, 1) := by decide +kernel
theorem dz_1146 : decode cL_law 1146 = .ok (.iload 4, 2) := by decide +kernel
theorem dz_1148 : decode cL_law 1148 = .ok (.iconst 4, 1) := by decide +kernel
theorem dz_1149 : decode cL_law 1149 = .ok (.iadd, 1) := by decide +kernel
theorem dz_1150 : decode cL_law 1150 = .ok (.iaload, 1) := by decide +kernel
theorem dz_1151 : decode cL_law 1151 = .ok (.invokevirtual 195, 3) := by decide +kernel
theorem dz_1154 : decode cL_law 1154 = .ok (.istore 6, 2) := by decide +kernel
theorem dz_1156 : decode cL_law 1156 = .ok (.aload_n 2, 1) := by decide +kernel
theorem dz_1157 : decode cL_law 1157 = .ok (.invokevirtual 137, 3) := by decide +kernel
theorem dz_1160 : decode cL_law 1160 = .ok (.iload 5, 2) := by decide +kernel
theorem dz_1162 : decode cL_law 1162 = .ok (.if_icmp .eq 5, 3) := by decide +kernel
theorem dz_1165 : decode cL_law 1165 = .ok (.iconst 0, 1) := by decide +kernel
theorem dz_1166 : decode cL_law 1166 = .ok (.ireturn, 1) := by decide +kernel
theorem dz_1167 : decode cL_law 1167 = .ok (.iload 5, 2) := by decide +kernel
theorem dz_1169 : decode cL_law 1169 = .ok (.ifCond .ne 15, 3) := by decide +kernel
theorem dz_1172 : decode cL_law 1172 = .ok (.aload_n 3, 1) := by decide +kernel
theorem dz_1173 : decode cL_law 1173 = .ok (.iconst 0, 1) := by decide +kernel
theorem dz_1174 : decode cL_law 1174 = .ok (.laload, 1) := by decide +kernel
theorem dz_1175 : decode cL_law 1175 = .ok (.iload 6, 2) := by decide +kernel
theorem dz_1177 : decode cL_law 1177 = .ok (.i2l, 1) := by decide +kernel
theorem dz_1178 : decode cL_law 1178 = .ok (.lcmp, 1) := by decide +kernel
theorem dz_1179 : decode cL_law 1179 = .ok (.ifCond .eq 5, 3) := by decide +kernel
theorem dz_1182 : decode cL_law 1182 = .ok (.iconst 0, 1) := by decide +kernel
theorem dz_1183 : decode cL_law 1183 = .ok (.ireturn, 1) := by decide +kernel
theorem dz_1184 : decode cL_law 1184 = .ok (.goto 1432, 3) := by decide +kernel
def lst_join (vl : Nat → Nat) (K : Nat) (x1 : Int32) (x2 : Int32) (x3 : Int32) (x4 : Int32) (x5 : Int32) (zc zm : ow_MS) : Option ow_LwS :=
 cs1 (le_L_join vl K 0 x1 x2 x3 x4 zc) fun v2 zc1 => cs1 (qe_X13_join K x1 x2 x3 x4 zm) fun v4 zm3 => cs1 (qe_X13_thrown K zm3) fun v6 zm5 => (if v6 = v2 then (if v2 = 0 then crJ (cX vl) zc1 52001 0 fun v7 => (if (lg_cmp v7 v4.toInt64) = 0 then some (vl, zc1, zm5)
 else none)
 else some (vl, zc1, zm5))
 else none)
set_option maxHeartbeats 4000000 in
set_option maxRecDepth 100000 in
theorem lxc_join {p : Program} {l : Launch} {e : Env} {s : State} {m : MethodId} {args : Array Value} {below : List Frame} {meth : Method} {c : Code} {b L K n : Nat} {xs : Nat → Int32} {D : va_G} {q : Nat → ClassId} {q5 : ow_Q5} {vl u w sa : Nat → Nat} {zc zm : ow_MS} {S1 : ow_LwS} {Ts : List Cond} {Q : State → Prop} {H : Heap} {locs : List Loc} {ls : Array Slot} {cells slots : Nat} (hx : p.tables.exec = Jvm.exec) (hb : c.code = cL_law) (hml : c.maxLocals = 8) (hown : s.vm.findClass RL = some m.cls) (hts : ∀ w ∈ Ts, w.before args s = true) (hX : va_X b L xs s s.heap) (hbl : b < s.heap.size) (hZ : ∀ w ∈ wZ, w ∈ Ts) (hL1 : ∀ w ∈ wLL, w ∈ Ts) (hC1 : ∀ w ∈ wC, w ∈ Ts) (hM1 : ∀ w ∈ wM, w ∈ Ts) (hG : lx_G l s D q q5 sa) (hLn : L ≤ 3072) (hn : 6 * n + 6 ≤ L) (hq : lst_join vl K (xs (6 * n + 1)) (xs (6 * n + 2)) (xs (6 * n + 3)) (xs (6 * n + 4)) (xs (6 * n + 5)) zc zm = some S1) (hM : lx_M D q q5 s vl u w zc zm H locs) (hl : lv_has ls 8 [(0, .ref b), (1, .ref (u 0)), (2, .ref (w 0)), (3, .ref (u 52001)), (4, .int (nI (6 * n)))]) (hc : cells + 5 ≤ 600002) (hs : slots + 30 ≤ 7302232) (kk : ∀ (zc1 zm1 : ow_MS) (H1 : Heap) (locs1 : List Loc) (ls1 : Array Slot), lx_M D q q5 s vl u w zc1 zm1 H1 locs1 → lv_has ls1 8 [(0, .ref b), (1, .ref (u 0)), (2, .ref (w 0)), (3, .ref (u 52001)), (4, .int (nI (6 * n)))] → some (vl, zc1, zm1) = some S1 → W p l e room_1 s m args below meth c H1 locs1 (cells + 5) (slots + 30) Q (F0 m 2616 ls1 [])) : W p l e room_1 s m args below meth c H locs cells slots Q (F0 m 1095 ls []) := by
  have hbA : ¬ lx_A s b := Nat.not_le.mpr hbl
  generalize e1 : xs (6 * n + 1) = x1 at hq
  generalize e2 : xs (6 * n + 2) = x2 at hq
  generalize e3 : xs (6 * n + 3) = x3 at hq
  generalize e4 : xs (6 * n + 4) = x4 at hq
  generalize e5 : xs (6 * n + 5) = x5 at hq
  unfold lst_join at hq
  refine lv_aload_n hx hb dz_1095 rfl (lv_at hl 1 rfl) ?_
  refine lv_aload_n hx hb dz_1096 rfl (lv_at hl 0 rfl) ?_
  refine lv_iload hx hb dz_1097 (lv_at hl 4 rfl) ?_
  refine lv_iconst (v := 1) hx hb dz_1099 (by decide) ?_
  refine lv_iadd hx hb dz_1100 ?_
  refine ow_topi (y := nI (6 * n + 1)) (nI_add (6 * n) 1) ?_
  refine va_sld hx hb hX hbl hbA hM.2.2.2.2.2 (vp_in_nI (n := 6 * n + 1) (N := L) (by omega) (by omega)) dz_1101 ?_
  refine ow_topi (y := x1) ((congrArg xs (nI_clamp (by omega))).trans e1) ?_
  refine lv_aload_n hx hb dz_1102 rfl (lv_at hl 0 rfl) ?_
  refine lv_iload hx hb dz_1103 (lv_at hl 4 rfl) ?_
  refine lv_iconst (v := 2) hx hb dz_1105 (by decide) ?_
  refine lv_iadd hx hb dz_1106 ?_
  refine ow_topi (y := nI (6 * n + 2)) (nI_add (6 * n) 2) ?_
  refine va_sld hx hb hX hbl hbA hM.2.2.2.2.2 (vp_in_nI (n := 6 * n + 2) (N := L) (by omega) (by omega)) dz_1107 ?_
  refine ow_topi (y := x2) ((congrArg xs (nI_clamp (by omega))).trans e2) ?_
  refine lv_aload_n hx hb dz_1108 rfl (lv_at hl 0 rfl) ?_
  refine lv_iload hx hb dz_1109 (lv_at hl 4 rfl) ?_
  refine lv_iconst (v := 3) hx hb dz_1111 (by decide) ?_
  refine lv_iadd hx hb dz_1112 ?_
  refine ow_topi (y := nI (6 * n + 3)) (nI_add (6 * n) 3) ?_
  refine va_sld hx hb hX hbl hbA hM.2.2.2.2.2 (vp_in_nI (n := 6 * n + 3) (N := L) (by omega) (by omega)) dz_1113 ?_
  refine ow_topi (y := x3) ((congrArg xs (nI_clamp (by omega))).trans e3) ?_
  refine lv_aload_n hx hb dz_1114 rfl (lv_at hl 0 rfl) ?_
  refine lv_iload hx hb dz_1115 (lv_at hl 4 rfl) ?_
  refine lv_iconst (v := 4) hx hb dz_1117 (by decide) ?_
  refine lv_iadd hx hb dz_1118 ?_
  refine ow_topi (y := nI (6 * n + 4)) (nI_add (6 * n) 4) ?_
  refine va_sld hx hb hX hbl hbA hM.2.2.2.2.2 (vp_in_nI (n := 6 * n + 4) (N := L) (by omega) (by omega)) dz_1119 ?_
  refine ow_topi (y := x4) ((congrArg xs (nI_clamp (by omega))).trans e4) ?_
  refine lv_aload_n hx hb dz_1120 rfl (lv_at hl 3 rfl) ?_
  obtain ⟨v2, zc1, hcq, hq⟩ := tw_cl1 hq
  refine lx_wrap hM (vx_runSX (As := [.ref (u 0), .int x1, .int x2, .int x3, .int x4, .ref (u 52001)]) (rest := []) ⟨hx, hb, hml, hown, hts⟩ (kl_L_join l D q vl u hM.2.2.1.1 hG.1 sa K 0 x1 x2 x3 x4 (by unfold cw_X11 ci_X11; exact List.mem_singleton.mpr rfl) zc zc1 v2 hcq) (vx_cwSW 6 hts (lx_gS (lx_all wLL_good rfl) (lx_mem hL1 (hZ _ zq_115)) (hZ _ zq_116) (hZ _ zq_117) (hZ _ zq_3) rfl rfl rfl) rfl rfl rfl (by decide +kernel) ⟨(Nat.le_of_ble_eq_true rfl), (Nat.le_of_ble_eq_true rfl)⟩) (lx_preL hG hM) rfl rfl hl.1 rfl (lv_room (Nat.le_of_ble_eq_true rfl)) dz_1121 ⟨(by show _ ≤ 600002; omega), (by show _ ≤ 7302232; omega)⟩) (fun H locs hM => ?_)
  refine lv_istore (lv' := [(5, .int v2), (0, .ref b), (1, .ref (u 0)), (2, .ref (w 0)), (3, .ref (u 52001)), (4, .int (nI (6 * n)))]) hx hb dz_1124 hl (by decide) rfl (fun ls hl => ?_)
  refine lv_aload_n hx hb dz_1126 rfl (lv_at hl 3 rfl) ?_
  refine lv_aload_n hx hb dz_1127 rfl (lv_at hl 1 rfl) ?_
  refine lv_iload hx hb dz_1128 (lv_at hl 5 rfl) ?_
  refine lv_iconst (v := 1) hx hb dz_1130 (by decide) ?_
  refine lv_iadd hx hb dz_1131 ?_
  refine ow_topi (y := nI (6 * n + 1)) (nI_add (6 * n) 1) ?_
  refine va_sld hx hb hX hbl hbA hM.2.2.2.2.2 (vp_in_nI (n := 6 * n + 1) (N := L) (by omega) (by omega)) dz_1132 ?_
  refine ow_topi (y := x1) ((congrArg xs (nI_clamp (by omega))).trans e1) ?_
  refine lv_aload_n hx hb dz_1133 rfl (lv_at hl 1 rfl) ?_
  refine lv_iload hx hb dz_1134 (lv_at hl 5 rfl) ?_
  refine lv_iconst (v := 2) hx hb dz_1136 (by decide) ?_
  refine lv_iadd hx hb dz_1137 ?_
  refine ow_topi (y := nI (6 * n + 2)) (nI_add (6 * n) 2) ?_
  refine va_sld hx hb hX hbl hbA hM.2.2.2.2.2 (vp_in_nI (n := 6 * n + 2) (N := L) (by omega) (by omega)) dz_1138 ?_
  refine ow_topi (y := x2) ((congrArg xs (nI_clamp (by omega))).trans e2) ?_
  refine lv_aload_n hx hb dz_1139 rfl (lv_at hl 1 rfl) ?_
  refine lv_iload hx hb dz_1140 (lv_at hl 5 rfl) ?_
  refine lv_iconst (v := 3) hx hb dz_1142 (by decide) ?_
  refine lv_iadd hx hb dz_1143 ?_
  refine ow_topi (y := nI (6 * n + 3)) (nI_add (6 * n) 3) ?_
  refine va_sld hx hb hX hbl hbA hM.2.2.2.2.2 (vp_in_nI (n := 6 * n + 3) (N := L) (by omega) (by omega)) dz_1144 ?_
  refine ow_topi (y := x3) ((congrArg xs (nI_clamp (by omega))).trans e3) ?_
  refine lv_aload_n hx hb dz_1145 rfl (lv_at hl 1 rfl) ?_
  refine lv_iload hx hb dz_1146 (lv_at hl 5 rfl) ?_
  refine lv_iconst (v := 4) hx hb dz_1148 (by decide) ?_
  refine lv_iadd hx hb dz_1149 ?_
  refine ow_topi (y := nI (6 * n + 4)) (nI_add (6 * n) 4) ?_
  refine va_sld hx hb hX hbl hbA hM.2.2.2.2.2 (vp_in_nI (n := 6 * n + 4) (N := L) (by omega) (by omega)) dz_1150 ?_
  refine ow_topi (y := x4) ((congrArg xs (nI_clamp (by omega))).trans e4) ?_
  obtain ⟨v4, zm3, hcq, hq⟩ := tw_cl1 hq
  refine lx_refi hM (va_runV (As := [.int x1, .int x2, .int x3, .int x4]) (rest := []) ⟨hx, hb, hml, hown, hts⟩ (km_X13_join l D q5 w hM.2.2.2.1.1 K x1 x2 x3 x4 zm zm3 v4 hcq) (cwV 4 hts (lx_gV (lx_all wM_good rfl) (lx_mem hM1 (hZ _ zq_118)) (hZ _ zq_119) (hZ _ zq_120) (hZ _ zq_121) (hZ _ zq_8) rfl rfl rfl rfl) rfl rfl rfl cd_X13_join ⟨(Nat.le_of_ble_eq_true rfl), (Nat.le_of_ble_eq_true rfl)⟩) (lx_preM hG hM) rfl rfl hl.1 rfl (lv_room (Nat.le_of_ble_eq_true rfl)) dz_1151 ⟨(by show _ ≤ 600002; omega), (by show _ ≤ 7302232; omega)⟩) (fun H locs hM => ?_)
  refine lv_istore (lv' := [(6, .int v4), (5, .int v2), (0, .ref b), (1, .ref (u 0)), (2, .ref (w 0)), (3, .ref (u 52001)), (4, .int (nI (6 * n)))]) hx hb dz_1154 hl (by decide) rfl (fun ls hl => ?_)
  refine lv_aload_n hx hb dz_1156 rfl (lv_at hl 4 rfl) ?_
  obtain ⟨v6, zm5, hcq, hq⟩ := tw_cl1 hq
  refine lx_refi hM (va_runV (As := []) (rest := []) ⟨hx, hb, hml, hown, hts⟩ (km_X13_thrown l D q5 w hM.2.2.2.1.1 K zm3 zm5 v6 hcq) (cwV 0 hts (lx_gV (lx_all wM_good rfl) (lx_mem hM1 (hZ _ zq_9)) (hZ _ zq_10) (hZ _ zq_11) (hZ _ zq_12) (hZ _ zq_8) rfl rfl rfl rfl) rfl rfl rfl cd_X13_thrown ⟨(Nat.le_of_ble_eq_true rfl), (Nat.le_of_ble_eq_true rfl)⟩) (lx_preM hG hM) rfl rfl hl.1 rfl (lv_room (Nat.le_of_ble_eq_true rfl)) dz_1157 ⟨(by show _ ≤ 600002; omega), (by show _ ≤ 7302232; omega)⟩) (fun H locs hM => ?_)
  refine lv_iload hx hb dz_1160 (lv_at hl 1 rfl) ?_
  refine lv_icmp_eq (tgt := 1167) hx hb dz_1162 (by decide) (fun hc9 => ?_) (fun hc9 => ?_)
  · have hq := tw_it hq hc9
    refine lv_iload hx hb dz_1167 (lv_at hl 1 rfl) ?_
    refine lv_if_ne (tgt := 1184) hx hb dz_1169 (by decide) (fun hc9 => ?_) (fun hc9 => ?_)
    · have hq := tw_if hq hc9
      refine lv_goto (tgt := 2616) hx hb dz_1184 (by decide) ?_
      exact kk _ _ H locs ls hM (lv_sub hl [2, 3, 4, 5, 6] rfl) hq
    · have hq := tw_it hq hc9
      refine lv_aload_n hx hb dz_1172 rfl (lv_at hl 5 rfl) ?_
      refine lv_iconst (v := 0) hx hb dz_1173 (by decide) ?_
      refine uw_lald (A := lx_A s) (H0 := s.heap) cX_ok hx hb hG.2.1 ⟨hM.1, hM.2.2.2.2.2⟩ cr_out hq dz_1174 (fun v7 hq => ?_)
      refine lv_iload hx hb dz_1175 (lv_at hl 0 rfl) ?_
      refine lv_i2l hx hb dz_1177 rfl ?_
      refine W.lcmp hx hb dz_1178 ?_
      refine lv_if_eq (tgt := 1184) hx hb dz_1179 (by decide) (fun hc9 => ?_) (fun hc9 => ?_)
      · have hq := tw_it hq hc9
        refine lv_goto (tgt := 2616) hx hb dz_1184 (by decide) ?_
        exact kk _ _ H locs ls hM (lv_sub hl [2, 3, 4, 5, 6] rfl) hq
      · have hq := tw_if hq hc9
        refine lv_iconst (v := 0) hx hb dz_1182 (by decide) ?_
        exact cw_no hq
  · have hq := tw_if hq hc9
    refine lv_iconst (v := 0) hx hb dz_1165 (by decide) ?_
    exact cw_no hq
theorem dz_1187 : decode cL_law 1187 = .ok (.aload_n 1, 1) := by decide +kernel
theorem dz_1188 : decode cL_law 1188 = .ok (.aload_n 0, 1) := by decide +kernel
theorem dz_1189 : decode cL_law 1189 = .ok (.iload 4, 2) := by decide +kernel
theorem dz_1191 : decode cL_law 1191 = .ok (.iconst 1, 1) := by decide +kernel
theorem dz_1192 : decode cL_law 1192 = .ok (.iadd, 1) := by decide +kernel
theorem dz_1193 : decode cL_law 1193 = .ok (.iaload, 1) := by decide +kernel
theorem dz_1194 : decode cL_law 1194 = .ok (.aload_n 0, 1) := by decide +kernel
theorem dz_1195 : decode cL_law 1195 = .ok (.iload 4, 2) := by decide +kernel
theorem dz_1197 : decode cL_law 1197 = .ok (.iconst 2, 1) := by decide +kernel
theorem dz_1198 : decode cL_law 1198 = .ok (.iadd, 1) := by decide +kernel
theorem dz_1199 : decode cL_law 1199 = .ok (.iaload, 1) := by decide +kernel
theorem dz_1200 : decode cL_law 1200 = .ok (.aload_n 3, 1) := by decide +kernel
theorem dz_1201 : decode cL_law 1201 = .ok (.invokestatic 196, 3) := by decide +kernel
theorem dz_1204 : decode cL_law 1204 = .ok (.istore 5, 2) := by decide +kernel
theorem dz_1206 : decode cL_law 1206 = .ok (.aload_n 2, 1) := by decide +kernel
theorem dz_1207 : decode cL_law 1207 = .ok (.aload_n 0, 1) := by decide +kernel
theorem dz_1208 : decode cL_law 1208 = .ok (.iload 4, 2) := by decide +kernel
theorem dz_1210 : decode cL_law 1210 = .ok (.iconst 1, 1) := by decide +kernel
theorem dz_1211 : decode cL_law 1211 = .ok (.iadd, 1) := by decide +kernel
theorem dz_1212 : decode cL_law 1212 = .ok (.iaload, 1) := by decide +kernel
theorem dz_1213 : decode cL_law 1213 = .ok (.aload_n 0, 1) := by decide +kernel
theorem dz_1214 : decode cL_law 1214 = .ok (.iload 4, 2) := by decide +kernel
theorem dz_1216 : decode cL_law 1216 = .ok (.iconst 2, 1) := by decide +kernel
theorem dz_1217 : decode cL_law 1217 = .ok (.iadd, 1) := by decide +kernel
theorem dz_1218 : decode cL_law 1218 = .ok (.iaload, 1) := by decide +kernel
theorem dz_1219 : decode cL_law 1219 = .ok (.invokevirtual 198, 3) := by decide +kernel
theorem dz_1222 : decode cL_law 1222 = .ok (.istore 6, 2) := by decide +kernel
theorem dz_1224 : decode cL_law 1224 = .ok (.aload_n 2, 1) := by decide +kernel
theorem dz_1225 : decode cL_law 1225 = .ok (.invokevirtual 137, 3) := by decide +kernel
theorem dz_1228 : decode cL_law 1228 = .ok (.iload 5, 2) := by decide +kernel
theorem dz_1230 : decode cL_law 1230 = .ok (.if_icmp .eq 5, 3) := by decide +kernel
theorem dz_1233 : decode cL_law 1233 = .ok (.iconst 0, 1) := by decide +kernel
theorem dz_1234 : decode cL_law 1234 = .ok (.ireturn, 1) := by decide +kernel
theorem dz_1235 : decode cL_law 1235 = .ok (.iload 5, 2) := by decide +kernel
theorem dz_1237 : decode cL_law 1237 = .ok (.ifCond .ne 15, 3) := by decide +kernel
theorem dz_1240 : decode cL_law 1240 = .ok (.aload_n 3, 1) := by decide +kernel
theorem dz_1241 : decode cL_law 1241 = .ok (.iconst 0, 1) := by decide +kernel
theorem dz_1242 : decode cL_law 1242 = .ok (.laload, 1) := by decide +kernel
theorem dz_1243 : decode cL_law 1243 = .ok (.iload 6, 2) := by decide +kernel
theorem dz_1245 : decode cL_law 1245 = .ok (.i2l, 1) := by decide +kernel
theorem dz_1246 : decode cL_law 1246 = .ok (.lcmp, 1) := by decide +kernel
theorem dz_1247 : decode cL_law 1247 = .ok (.ifCond .eq 5, 3) := by decide +kernel
theorem dz_1250 : decode cL_law 1250 = .ok (.iconst 0, 1) := by decide +kernel
theorem dz_1251 : decode cL_law 1251 = .ok (.ireturn, 1) := by decide +kernel
theorem dz_1252 : decode cL_law 1252 = .ok (.goto 1364, 3) := by decide +kernel
def lst_moves (vl : Nat → Nat) (K : Nat) (x1 : Int32) (x2 : Int32) (x3 : Int32) (x4 : Int32) (x5 : Int32) (zc zm : ow_MS) : Option ow_LwS :=
 cs1 (le_L_moves vl K 0 x1 x2 zc) fun v2 zc1 => cs1 (qe_X13_moves K x1 x2 zm) fun v4 zm3 => cs1 (qe_X13_thrown K zm3) fun v6 zm5 => (if v6 = v2 then (if v2 = 0 then crJ (cX vl) zc1 52001 0 fun v7 => (if (lg_cmp v7 v4.toInt64) = 0 then some (vl, zc1, zm5)
 else none)
 else some (vl, zc1, zm5))
 else none)
set_option maxHeartbeats 4000000 in
set_option maxRecDepth 100000 in
theorem lxc_moves {p : Program} {l : Launch} {e : Env} {s : State} {m : MethodId} {args : Array Value} {below : List Frame} {meth : Method} {c : Code} {b L K n : Nat} {xs : Nat → Int32} {D : va_G} {q : Nat → ClassId} {q5 : ow_Q5} {vl u w sa : Nat → Nat} {zc zm : ow_MS} {S1 : ow_LwS} {Ts : List Cond} {Q : State → Prop} {H : Heap} {locs : List Loc} {ls : Array Slot} {cells slots : Nat} (hx : p.tables.exec = Jvm.exec) (hb : c.code = cL_law) (hml : c.maxLocals = 8) (hown : s.vm.findClass RL = some m.cls) (hts : ∀ w ∈ Ts, w.before args s = true) (hX : va_X b L xs s s.heap) (hbl : b < s.heap.size) (hZ : ∀ w ∈ wZ, w ∈ Ts) (hL1 : ∀ w ∈ wLL, w ∈ Ts) (hC1 : ∀ w ∈ wC, w ∈ Ts) (hM1 : ∀ w ∈ wM, w ∈ Ts) (hG : lx_G l s D q q5 sa) (hLn : L ≤ 3072) (hn : 6 * n + 6 ≤ L) (hq : lst_moves vl K (xs (6 * n + 1)) (xs (6 * n + 2)) (xs (6 * n + 3)) (xs (6 * n + 4)) (xs (6 * n + 5)) zc zm = some S1) (hM : lx_M D q q5 s vl u w zc zm H locs) (hl : lv_has ls 8 [(0, .ref b), (1, .ref (u 0)), (2, .ref (w 0)), (3, .ref (u 52001)), (4, .int (nI (6 * n)))]) (hc : cells + 2 ≤ 600002) (hs : slots + 12 ≤ 7302232) (kk : ∀ (zc1 zm1 : ow_MS) (H1 : Heap) (locs1 : List Loc) (ls1 : Array Slot), lx_M D q q5 s vl u w zc1 zm1 H1 locs1 → lv_has ls1 8 [(0, .ref b), (1, .ref (u 0)), (2, .ref (w 0)), (3, .ref (u 52001)), (4, .int (nI (6 * n)))] → some (vl, zc1, zm1) = some S1 → W p l e room_1 s m args below meth c H1 locs1 (cells + 2) (slots + 12) Q (F0 m 2616 ls1 [])) : W p l e room_1 s m args below meth c H locs cells slots Q (F0 m 1187 ls []) := by
  have hbA : ¬ lx_A s b := Nat.not_le.mpr hbl
  generalize e1 : xs (6 * n + 1) = x1 at hq
  generalize e2 : xs (6 * n + 2) = x2 at hq
  generalize e3 : xs (6 * n + 3) = x3 at hq
  generalize e4 : xs (6 * n + 4) = x4 at hq
  generalize e5 : xs (6 * n + 5) = x5 at hq
  unfold lst_moves at hq
  refine lv_aload_n hx hb dz_1187 rfl (lv_at hl 1 rfl) ?_
  refine lv_aload_n hx hb dz_1188 rfl (lv_at hl 0 rfl) ?_
  refine lv_iload hx hb dz_1189 (lv_at hl 4 rfl) ?_
  refine lv_iconst (v := 1) hx hb dz_1191 (by decide) ?_
  refine lv_iadd hx hb dz_1192 ?_
  refine ow_topi (y := nI (6 * n + 1)) (nI_add (6 * n) 1) ?_
  refine va_sld hx hb hX hbl hbA hM.2.2.2.2.2 (vp_in_nI (n := 6 * n + 1) (N := L) (by omega) (by omega)) dz_1193 ?_
  refine ow_topi (y := x1) ((congrArg xs (nI_clamp (by omega))).trans e1) ?_
  refine lv_aload_n hx hb dz_1194 rfl (lv_at hl 0 rfl) ?_
  refine lv_iload hx hb dz_1195 (lv_at hl 4 rfl) ?_
  refine lv_iconst (v := 2) hx hb dz_1197 (by decide) ?_
  refine lv_iadd hx hb dz_1198 ?_
  refine ow_topi (y := nI (6 * n + 2)) (nI_add (6 * n) 2) ?_
  refine va_sld hx hb hX hbl hbA hM.2.2.2.2.2 (vp_in_nI (n := 6 * n + 2) (N := L) (by omega) (by omega)) dz_1199 ?_
  refine ow_topi (y := x2) ((congrArg xs (nI_clamp (by omega))).trans e2) ?_
  refine lv_aload_n hx hb dz_1200 rfl (lv_at hl 3 rfl) ?_
  obtain ⟨v2, zc1, hcq, hq⟩ := tw_cl1 hq
  refine lx_wrap hM (vx_runSX (As := [.ref (u 0), .int x1, .int x2, .ref (u 52001)]) (rest := []) ⟨hx, hb, hml, hown, hts⟩ (kl_L_moves l D q vl u hM.2.2.1.1 hG.1 sa K 0 x1 x2 (by unfold cw_X11 ci_X11; exact List.mem_singleton.mpr rfl) zc zc1 v2 hcq) (vx_cwSW 4 hts (lx_gS (lx_all wLL_good rfl) (lx_mem hL1 (hZ _ zq_122)) (hZ _ zq_123) (hZ _ zq_124) (hZ _ zq_3) rfl rfl rfl) rfl rfl rfl (by decide +kernel) ⟨(Nat.le_of_ble_eq_true rfl), (Nat.le_of_ble_eq_true rfl)⟩) (lx_preL hG hM) rfl rfl hl.1 rfl (lv_room (Nat.le_of_ble_eq_true rfl)) dz_1201 ⟨(by show _ ≤ 600002; omega), (by show _ ≤ 7302232; omega)⟩) (fun H locs hM => ?_)
  refine lv_istore (lv' := [(5, .int v2), (0, .ref b), (1, .ref (u 0)), (2, .ref (w 0)), (3, .ref (u 52001)), (4, .int (nI (6 * n)))]) hx hb dz_1204 hl (by decide) rfl (fun ls hl => ?_)
  refine lv_aload_n hx hb dz_1206 rfl (lv_at hl 3 rfl) ?_
  refine lv_aload_n hx hb dz_1207 rfl (lv_at hl 1 rfl) ?_
  refine lv_iload hx hb dz_1208 (lv_at hl 5 rfl) ?_
  refine lv_iconst (v := 1) hx hb dz_1210 (by decide) ?_
  refine lv_iadd hx hb dz_1211 ?_
  refine ow_topi (y := nI (6 * n + 1)) (nI_add (6 * n) 1) ?_
  refine va_sld hx hb hX hbl hbA hM.2.2.2.2.2 (vp_in_nI (n := 6 * n + 1) (N := L) (by omega) (by omega)) dz_1212 ?_
  refine ow_topi (y := x1) ((congrArg xs (nI_clamp (by omega))).trans e1) ?_
  refine lv_aload_n hx hb dz_1213 rfl (lv_at hl 1 rfl) ?_
  refine lv_iload hx hb dz_1214 (lv_at hl 5 rfl) ?_
  refine lv_iconst (v := 2) hx hb dz_1216 (by decide) ?_
  refine lv_iadd hx hb dz_1217 ?_
  refine ow_topi (y := nI (6 * n + 2)) (nI_add (6 * n) 2) ?_
  refine va_sld hx hb hX hbl hbA hM.2.2.2.2.2 (vp_in_nI (n := 6 * n + 2) (N := L) (by omega) (by omega)) dz_1218 ?_
  refine ow_topi (y := x2) ((congrArg xs (nI_clamp (by omega))).trans e2) ?_
  obtain ⟨v4, zm3, hcq, hq⟩ := tw_cl1 hq
  refine lx_refi hM (va_runV (As := [.int x1, .int x2]) (rest := []) ⟨hx, hb, hml, hown, hts⟩ (km_X13_moves l D q5 w hM.2.2.2.1.1 K x1 x2 zm zm3 v4 hcq) (cwV 2 hts (lx_gV (lx_all wM_good rfl) (lx_mem hM1 (hZ _ zq_125)) (hZ _ zq_126) (hZ _ zq_127) (hZ _ zq_128) (hZ _ zq_8) rfl rfl rfl rfl) rfl rfl rfl cd_X13_moves ⟨(Nat.le_of_ble_eq_true rfl), (Nat.le_of_ble_eq_true rfl)⟩) (lx_preM hG hM) rfl rfl hl.1 rfl (lv_room (Nat.le_of_ble_eq_true rfl)) dz_1219 ⟨(by show _ ≤ 600002; omega), (by show _ ≤ 7302232; omega)⟩) (fun H locs hM => ?_)
  refine lv_istore (lv' := [(6, .int v4), (5, .int v2), (0, .ref b), (1, .ref (u 0)), (2, .ref (w 0)), (3, .ref (u 52001)), (4, .int (nI (6 * n)))]) hx hb dz_1222 hl (by decide) rfl (fun ls hl => ?_)
  refine lv_aload_n hx hb dz_1224 rfl (lv_at hl 4 rfl) ?_
  obtain ⟨v6, zm5, hcq, hq⟩ := tw_cl1 hq
  refine lx_refi hM (va_runV (As := []) (rest := []) ⟨hx, hb, hml, hown, hts⟩ (km_X13_thrown l D q5 w hM.2.2.2.1.1 K zm3 zm5 v6 hcq) (cwV 0 hts (lx_gV (lx_all wM_good rfl) (lx_mem hM1 (hZ _ zq_9)) (hZ _ zq_10) (hZ _ zq_11) (hZ _ zq_12) (hZ _ zq_8) rfl rfl rfl rfl) rfl rfl rfl cd_X13_thrown ⟨(Nat.le_of_ble_eq_true rfl), (Nat.le_of_ble_eq_true rfl)⟩) (lx_preM hG hM) rfl rfl hl.1 rfl (lv_room (Nat.le_of_ble_eq_true rfl)) dz_1225 ⟨(by show _ ≤ 600002; omega), (by show _ ≤ 7302232; omega)⟩) (fun H locs hM => ?_)
  refine lv_iload hx hb dz_1228 (lv_at hl 1 rfl) ?_
  refine lv_icmp_eq (tgt := 1235) hx hb dz_1230 (by decide) (fun hc9 => ?_) (fun hc9 => ?_)
  · have hq := tw_it hq hc9
    refine lv_iload hx hb dz_1235 (lv_at hl 1 rfl) ?_
    refine lv_if_ne (tgt := 1252) hx hb dz_1237 (by decide) (fun hc9 => ?_) (fun hc9 => ?_)
    · have hq := tw_if hq hc9
      refine lv_goto (tgt := 2616) hx hb dz_1252 (by decide) ?_
      exact kk _ _ H locs ls hM (lv_sub hl [2, 3, 4, 5, 6] rfl) hq
    · have hq := tw_it hq hc9
      refine lv_aload_n hx hb dz_1240 rfl (lv_at hl 5 rfl) ?_
      refine lv_iconst (v := 0) hx hb dz_1241 (by decide) ?_
      refine uw_lald (A := lx_A s) (H0 := s.heap) cX_ok hx hb hG.2.1 ⟨hM.1, hM.2.2.2.2.2⟩ cr_out hq dz_1242 (fun v7 hq => ?_)
      refine lv_iload hx hb dz_1243 (lv_at hl 0 rfl) ?_
      refine lv_i2l hx hb dz_1245 rfl ?_
      refine W.lcmp hx hb dz_1246 ?_
      refine lv_if_eq (tgt := 1252) hx hb dz_1247 (by decide) (fun hc9 => ?_) (fun hc9 => ?_)
      · have hq := tw_it hq hc9
        refine lv_goto (tgt := 2616) hx hb dz_1252 (by decide) ?_
        exact kk _ _ H locs ls hM (lv_sub hl [2, 3, 4, 5, 6] rfl) hq
      · have hq := tw_if hq hc9
        refine lv_iconst (v := 0) hx hb dz_1250 (by decide) ?_
        exact cw_no hq
  · have hq := tw_if hq hc9
    refine lv_iconst (v := 0) hx hb dz_1233 (by decide) ?_
    exact cw_no hq
theorem dz_1255 : decode cL_law 1255 = .ok (.aload_n 1, 1) := by decide +kernel
theorem dz_1256 : decode cL_law 1256 = .ok (.aload_n 0, 1) := by decide +kernel
theorem dz_1257 : decode cL_law 1257 = .ok (.iload 4, 2) := by decide +kernel
theorem dz_1259 : decode cL_law 1259 = .ok (.iconst 1, 1) := by decide +kernel
theorem dz_1260 : decode cL_law 1260 = .ok (.iadd, 1) := by decide +kernel
theorem dz_1261 : decode cL_law 1261 = .ok (.iaload, 1) := by decide +kernel
theorem dz_1262 : decode cL_law 1262 = .ok (.aload_n 3, 1) := by decide +kernel
theorem dz_1263 : decode cL_law 1263 = .ok (.invokestatic 199, 3) := by decide +kernel
theorem dz_1266 : decode cL_law 1266 = .ok (.istore 5, 2) := by decide +kernel
theorem dz_1268 : decode cL_law 1268 = .ok (.aload_n 2, 1) := by decide +kernel
theorem dz_1269 : decode cL_law 1269 = .ok (.aload_n 0, 1) := by decide +kernel
theorem dz_1270 : decode cL_law 1270 = .ok (.iload 4, 2) := by decide +kernel
theorem dz_1272 : decode cL_law 1272 = .ok (.iconst 1, 1) := by decide +kernel
theorem dz_1273 : decode cL_law 1273 = .ok (.iadd, 1) := by decide +kernel
theorem dz_1274 : decode cL_law 1274 = .ok (.iaload, 1) := by decide +kernel
theorem dz_1275 : decode cL_law 1275 = .ok (.invokevirtual 201, 3) := by decide +kernel
theorem dz_1278 : decode cL_law 1278 = .ok (.istore 6, 2) := by decide +kernel
theorem dz_1280 : decode cL_law 1280 = .ok (.aload_n 2, 1) := by decide +kernel
theorem dz_1281 : decode cL_law 1281 = .ok (.invokevirtual 137, 3) := by decide +kernel
theorem dz_1284 : decode cL_law 1284 = .ok (.iload 5, 2) := by decide +kernel
theorem dz_1286 : decode cL_law 1286 = .ok (.if_icmp .eq 5, 3) := by decide +kernel
theorem dz_1289 : decode cL_law 1289 = .ok (.iconst 0, 1) := by decide +kernel
theorem dz_1290 : decode cL_law 1290 = .ok (.ireturn, 1) := by decide +kernel
theorem dz_1291 : decode cL_law 1291 = .ok (.iload 5, 2) := by decide +kernel
theorem dz_1293 : decode cL_law 1293 = .ok (.ifCond .ne 15, 3) := by decide +kernel
theorem dz_1296 : decode cL_law 1296 = .ok (.aload_n 3, 1) := by decide +kernel
theorem dz_1297 : decode cL_law 1297 = .ok (.iconst 0, 1) := by decide +kernel
theorem dz_1298 : decode cL_law 1298 = .ok (.laload, 1) := by decide +kernel
theorem dz_1299 : decode cL_law 1299 = .ok (.iload 6, 2) := by decide +kernel
theorem dz_1301 : decode cL_law 1301 = .ok (.i2l, 1) := by decide +kernel
theorem dz_1302 : decode cL_law 1302 = .ok (.lcmp, 1) := by decide +kernel
theorem dz_1303 : decode cL_law 1303 = .ok (.ifCond .eq 5, 3) := by decide +kernel
theorem dz_1306 : decode cL_law 1306 = .ok (.iconst 0, 1) := by decide +kernel
theorem dz_1307 : decode cL_law 1307 = .ok (.ireturn, 1) := by decide +kernel
theorem dz_1308 : decode cL_law 1308 = .ok (.goto 1308, 3) := by decide +kernel
def lst_moved (vl : Nat → Nat) (K : Nat) (x1 : Int32) (x2 : Int32) (x3 : Int32) (x4 : Int32) (x5 : Int32) (zc zm : ow_MS) : Option ow_LwS :=
 cs1 (le_L_moved vl K 0 x1 zc) fun v2 zc1 => cs1 (qe_X13_moved K x1 zm) fun v4 zm3 => cs1 (qe_X13_thrown K zm3) fun v6 zm5 => (if v6 = v2 then (if v2 = 0 then crJ (cX vl) zc1 52001 0 fun v7 => (if (lg_cmp v7 v4.toInt64) = 0 then some (vl, zc1, zm5)
 else none)
 else some (vl, zc1, zm5))
 else none)
set_option maxHeartbeats 4000000 in
set_option maxRecDepth 100000 in
theorem lxc_moved {p : Program} {l : Launch} {e : Env} {s : State} {m : MethodId} {args : Array Value} {below : List Frame} {meth : Method} {c : Code} {b L K n : Nat} {xs : Nat → Int32} {D : va_G} {q : Nat → ClassId} {q5 : ow_Q5} {vl u w sa : Nat → Nat} {zc zm : ow_MS} {S1 : ow_LwS} {Ts : List Cond} {Q : State → Prop} {H : Heap} {locs : List Loc} {ls : Array Slot} {cells slots : Nat} (hx : p.tables.exec = Jvm.exec) (hb : c.code = cL_law) (hml : c.maxLocals = 8) (hown : s.vm.findClass RL = some m.cls) (hts : ∀ w ∈ Ts, w.before args s = true) (hX : va_X b L xs s s.heap) (hbl : b < s.heap.size) (hZ : ∀ w ∈ wZ, w ∈ Ts) (hL1 : ∀ w ∈ wLL, w ∈ Ts) (hC1 : ∀ w ∈ wC, w ∈ Ts) (hM1 : ∀ w ∈ wM, w ∈ Ts) (hG : lx_G l s D q q5 sa) (hLn : L ≤ 3072) (hn : 6 * n + 6 ≤ L) (hq : lst_moved vl K (xs (6 * n + 1)) (xs (6 * n + 2)) (xs (6 * n + 3)) (xs (6 * n + 4)) (xs (6 * n + 5)) zc zm = some S1) (hM : lx_M D q q5 s vl u w zc zm H locs) (hl : lv_has ls 8 [(0, .ref b), (1, .ref (u 0)), (2, .ref (w 0)), (3, .ref (u 52001)), (4, .int (nI (6 * n)))]) (hc : cells + 2 ≤ 600002) (hs : slots + 12 ≤ 7302232) (kk : ∀ (zc1 zm1 : ow_MS) (H1 : Heap) (locs1 : List Loc) (ls1 : Array Slot), lx_M D q q5 s vl u w zc1 zm1 H1 locs1 → lv_has ls1 8 [(0, .ref b), (1, .ref (u 0)), (2, .ref (w 0)), (3, .ref (u 52001)), (4, .int (nI (6 * n)))] → some (vl, zc1, zm1) = some S1 → W p l e room_1 s m args below meth c H1 locs1 (cells + 2) (slots + 12) Q (F0 m 2616 ls1 [])) : W p l e room_1 s m args below meth c H locs cells slots Q (F0 m 1255 ls []) := by
  have hbA : ¬ lx_A s b := Nat.not_le.mpr hbl
  generalize e1 : xs (6 * n + 1) = x1 at hq
  generalize e2 : xs (6 * n + 2) = x2 at hq
  generalize e3 : xs (6 * n + 3) = x3 at hq
  generalize e4 : xs (6 * n + 4) = x4 at hq
  generalize e5 : xs (6 * n + 5) = x5 at hq
  unfold lst_moved at hq
  refine lv_aload_n hx hb dz_1255 rfl (lv_at hl 1 rfl) ?_
  refine lv_aload_n hx hb dz_1256 rfl (lv_at hl 0 rfl) ?_
  refine lv_iload hx hb dz_1257 (lv_at hl 4 rfl) ?_
  refine lv_iconst (v := 1) hx hb dz_1259 (by decide) ?_
  refine lv_iadd hx hb dz_1260 ?_
  refine ow_topi (y := nI (6 * n + 1)) (nI_add (6 * n) 1) ?_
  refine va_sld hx hb hX hbl hbA hM.2.2.2.2.2 (vp_in_nI (n := 6 * n + 1) (N := L) (by omega) (by omega)) dz_1261 ?_
  refine ow_topi (y := x1) ((congrArg xs (nI_clamp (by omega))).trans e1) ?_
  refine lv_aload_n hx hb dz_1262 rfl (lv_at hl 3 rfl) ?_
  obtain ⟨v2, zc1, hcq, hq⟩ := tw_cl1 hq
  refine lx_wrap hM (vx_runSX (As := [.ref (u 0), .int x1, .ref (u 52001)]) (rest := []) ⟨hx, hb, hml, hown, hts⟩ (kl_L_moved l D q vl u hM.2.2.1.1 hG.1 sa K 0 x1 (by unfold cw_X11 ci_X11; exact List.mem_singleton.mpr rfl) zc zc1 v2 hcq) (vx_cwSW 3 hts (lx_gS (lx_all wLL_good rfl) (lx_mem hL1 (hZ _ zq_129)) (hZ _ zq_130) (hZ _ zq_131) (hZ _ zq_3) rfl rfl rfl) rfl rfl rfl (by decide +kernel) ⟨(Nat.le_of_ble_eq_true rfl), (Nat.le_of_ble_eq_true rfl)⟩) (lx_preL hG hM) rfl rfl hl.1 rfl (lv_room (Nat.le_of_ble_eq_true rfl)) dz_1263 ⟨(by show _ ≤ 600002; omega), (by show _ ≤ 7302232; omega)⟩) (fun H locs hM => ?_)
  refine lv_istore (lv' := [(5, .int v2), (0, .ref b), (1, .ref (u 0)), (2, .ref (w 0)), (3, .ref (u 52001)), (4, .int (nI (6 * n)))]) hx hb dz_1266 hl (by decide) rfl (fun ls hl => ?_)
  refine lv_aload_n hx hb dz_1268 rfl (lv_at hl 3 rfl) ?_
  refine lv_aload_n hx hb dz_1269 rfl (lv_at hl 1 rfl) ?_
  refine lv_iload hx hb dz_1270 (lv_at hl 5 rfl) ?_
  refine lv_iconst (v := 1) hx hb dz_1272 (by decide) ?_
  refine lv_iadd hx hb dz_1273 ?_
  refine ow_topi (y := nI (6 * n + 1)) (nI_add (6 * n) 1) ?_
  refine va_sld hx hb hX hbl hbA hM.2.2.2.2.2 (vp_in_nI (n := 6 * n + 1) (N := L) (by omega) (by omega)) dz_1274 ?_
  refine ow_topi (y := x1) ((congrArg xs (nI_clamp (by omega))).trans e1) ?_
  obtain ⟨v4, zm3, hcq, hq⟩ := tw_cl1 hq
  refine lx_refi hM (va_runV (As := [.int x1]) (rest := []) ⟨hx, hb, hml, hown, hts⟩ (km_X13_moved l D q5 w hM.2.2.2.1.1 K x1 zm zm3 v4 hcq) (cwV 1 hts (lx_gV (lx_all wM_good rfl) (lx_mem hM1 (hZ _ zq_132)) (hZ _ zq_133) (hZ _ zq_134) (hZ _ zq_135) (hZ _ zq_8) rfl rfl rfl rfl) rfl rfl rfl cd_X13_moved ⟨(Nat.le_of_ble_eq_true rfl), (Nat.le_of_ble_eq_true rfl)⟩) (lx_preM hG hM) rfl rfl hl.1 rfl (lv_room (Nat.le_of_ble_eq_true rfl)) dz_1275 ⟨(by show _ ≤ 600002; omega), (by show _ ≤ 7302232; omega)⟩) (fun H locs hM => ?_)
  refine lv_istore (lv' := [(6, .int v4), (5, .int v2), (0, .ref b), (1, .ref (u 0)), (2, .ref (w 0)), (3, .ref (u 52001)), (4, .int (nI (6 * n)))]) hx hb dz_1278 hl (by decide) rfl (fun ls hl => ?_)
  refine lv_aload_n hx hb dz_1280 rfl (lv_at hl 4 rfl) ?_
  obtain ⟨v6, zm5, hcq, hq⟩ := tw_cl1 hq
  refine lx_refi hM (va_runV (As := []) (rest := []) ⟨hx, hb, hml, hown, hts⟩ (km_X13_thrown l D q5 w hM.2.2.2.1.1 K zm3 zm5 v6 hcq) (cwV 0 hts (lx_gV (lx_all wM_good rfl) (lx_mem hM1 (hZ _ zq_9)) (hZ _ zq_10) (hZ _ zq_11) (hZ _ zq_12) (hZ _ zq_8) rfl rfl rfl rfl) rfl rfl rfl cd_X13_thrown ⟨(Nat.le_of_ble_eq_true rfl), (Nat.le_of_ble_eq_true rfl)⟩) (lx_preM hG hM) rfl rfl hl.1 rfl (lv_room (Nat.le_of_ble_eq_true rfl)) dz_1281 ⟨(by show _ ≤ 600002; omega), (by show _ ≤ 7302232; omega)⟩) (fun H locs hM => ?_)
  refine lv_iload hx hb dz_1284 (lv_at hl 1 rfl) ?_
  refine lv_icmp_eq (tgt := 1291) hx hb dz_1286 (by decide) (fun hc9 => ?_) (fun hc9 => ?_)
  · have hq := tw_it hq hc9
    refine lv_iload hx hb dz_1291 (lv_at hl 1 rfl) ?_
    refine lv_if_ne (tgt := 1308) hx hb dz_1293 (by decide) (fun hc9 => ?_) (fun hc9 => ?_)
    · have hq := tw_if hq hc9
      refine lv_goto (tgt := 2616) hx hb dz_1308 (by decide) ?_
      exact kk _ _ H locs ls hM (lv_sub hl [2, 3, 4, 5, 6] rfl) hq
    · have hq := tw_it hq hc9
      refine lv_aload_n hx hb dz_1296 rfl (lv_at hl 5 rfl) ?_
      refine lv_iconst (v := 0) hx hb dz_1297 (by decide) ?_
      refine uw_lald (A := lx_A s) (H0 := s.heap) cX_ok hx hb hG.2.1 ⟨hM.1, hM.2.2.2.2.2⟩ cr_out hq dz_1298 (fun v7 hq => ?_)
      refine lv_iload hx hb dz_1299 (lv_at hl 0 rfl) ?_
      refine lv_i2l hx hb dz_1301 rfl ?_
      refine W.lcmp hx hb dz_1302 ?_
      refine lv_if_eq (tgt := 1308) hx hb dz_1303 (by decide) (fun hc9 => ?_) (fun hc9 => ?_)
      · have hq := tw_it hq hc9
        refine lv_goto (tgt := 2616) hx hb dz_1308 (by decide) ?_
        exact kk _ _ H locs ls hM (lv_sub hl [2, 3, 4, 5, 6] rfl) hq
      · have hq := tw_if hq hc9
        refine lv_iconst (v := 0) hx hb dz_1306 (by decide) ?_
        exact cw_no hq
  · have hq := tw_if hq hc9
    refine lv_iconst (v := 0) hx hb dz_1289 (by decide) ?_
    exact cw_no hq
theorem dz_1311 : decode cL_law 1311 = .ok (.aload_n 1, 1) := by decide +kernel
theorem dz_1312 : decode cL_law 1312 = .ok (.aload_n 0, 1) := by decide +kernel
theorem dz_1313 : decode cL_law 1313 = .ok (.iload 4, 2) := by decide +kernel
theorem dz_1315 : decode cL_law 1315 = .ok (.iconst 1, 1) := by decide +kernel
theorem dz_1316 : decode cL_law 1316 = .ok (.iadd, 1) := by decide +kernel
theorem dz_1317 : decode cL_law 1317 = .ok (.iaload, 1) := by decide +kernel
theorem dz_1318 : decode cL_law 1318 = .ok (.aload_n 3, 1) := by decide +kernel
theorem dz_1319 : decode cL_law 1319 = .ok (.invokestatic 202, 3) := by decide +kernel
theorem dz_1322 : decode cL_law 1322 = .ok (.istore 5, 2) := by decide +kernel
theorem dz_1324 : decode cL_law 1324 = .ok (.aload_n 2, 1) := by decide +kernel
theorem dz_1325 : decode cL_law 1325 = .ok (.aload_n 0, 1) := by decide +kernel
theorem dz_1326 : decode cL_law 1326 = .ok (.iload 4, 2) := by decide +kernel
theorem dz_1328 : decode cL_law 1328 = .ok (.iconst 1, 1) := by decide +kernel
theorem dz_1329 : decode cL_law 1329 = .ok (.iadd, 1) := by decide +kernel
theorem dz_1330 : decode cL_law 1330 = .ok (.iaload, 1) := by decide +kernel
theorem dz_1331 : decode cL_law 1331 = .ok (.invokevirtual 204, 3) := by decide +kernel
theorem dz_1334 : decode cL_law 1334 = .ok (.istore 6, 2) := by decide +kernel
theorem dz_1336 : decode cL_law 1336 = .ok (.aload_n 2, 1) := by decide +kernel
theorem dz_1337 : decode cL_law 1337 = .ok (.invokevirtual 137, 3) := by decide +kernel
theorem dz_1340 : decode cL_law 1340 = .ok (.iload 5, 2) := by decide +kernel
theorem dz_1342 : decode cL_law 1342 = .ok (.if_icmp .eq 5, 3) := by decide +kernel
theorem dz_1345 : decode cL_law 1345 = .ok (.iconst 0, 1) := by decide +kernel
theorem dz_1346 : decode cL_law 1346 = .ok (.ireturn, 1) := by decide +kernel
theorem dz_1347 : decode cL_law 1347 = .ok (.iload 5, 2) := by decide +kernel
theorem dz_1349 : decode cL_law 1349 = .ok (.ifCond .ne 15, 3) := by decide +kernel
theorem dz_1352 : decode cL_law 1352 = .ok (.aload_n 3, 1) := by decide +kernel
theorem dz_1353 : decode cL_law 1353 = .ok (.iconst 0, 1) := by decide +kernel
theorem dz_1354 : decode cL_law 1354 = .ok (.laload, 1) := by decide +kernel
theorem dz_1355 : decode cL_law 1355 = .ok (.iload 6, 2) := by decide +kernel
theorem dz_1357 : decode cL_law 1357 = .ok (.i2l, 1) := by decide +kernel
theorem dz_1358 : decode cL_law 1358 = .ok (.lcmp, 1) := by decide +kernel
theorem dz_1359 : decode cL_law 1359 = .ok (.ifCond .eq 5, 3) := by decide +kernel
theorem dz_1362 : decode cL_law 1362 = .ok (.iconst 0, 1) := by decide +kernel
theorem dz_1363 : decode cL_law 1363 = .ok (.ireturn, 1) := by decide +kernel
theorem dz_1364 : decode cL_law 1364 = .ok (.goto 1252, 3) := by decide +kernel
def lst_simplify (vl : Nat → Nat) (K : Nat) (x1 : Int32) (x2 : Int32) (x3 : Int32) (x4 : Int32) (x5 : Int32) (zc zm : ow_MS) : Option ow_LwS :=
 cs1 (le_L_simplify vl K 0 x1 zc) fun v2 zc1 => cs1 (qe_X13_simplify K x1 zm) fun v4 zm3 => cs1 (qe_X13_thrown K zm3) fun v6 zm5 => (if v6 = v2 then (if v2 = 0 then crJ (cX vl) zc1 52001 0 fun v7 => (if (lg_cmp v7 v4.toInt64) = 0 then some (vl, zc1, zm5)
 else none)
 else some (vl, zc1, zm5))
 else none)
set_option maxHeartbeats 4000000 in
set_option maxRecDepth 100000 in
theorem lxc_simplify {p : Program} {l : Launch} {e : Env} {s : State} {m : MethodId} {args : Array Value} {below : List Frame} {meth : Method} {c : Code} {b L K n : Nat} {xs : Nat → Int32} {D : va_G} {q : Nat → ClassId} {q5 : ow_Q5} {vl u w sa : Nat → Nat} {zc zm : ow_MS} {S1 : ow_LwS} {Ts : List Cond} {Q : State → Prop} {H : Heap} {locs : List Loc} {ls : Array Slot} {cells slots : Nat} (hx : p.tables.exec = Jvm.exec) (hb : c.code = cL_law) (hml : c.maxLocals = 8) (hown : s.vm.findClass RL = some m.cls) (hts : ∀ w ∈ Ts, w.before args s = true) (hX : va_X b L xs s s.heap) (hbl : b < s.heap.size) (hZ : ∀ w ∈ wZ, w ∈ Ts) (hL1 : ∀ w ∈ wLL, w ∈ Ts) (hC1 : ∀ w ∈ wC, w ∈ Ts) (hM1 : ∀ w ∈ wM, w ∈ Ts) (hG : lx_G l s D q q5 sa) (hLn : L ≤ 3072) (hn : 6 * n + 6 ≤ L) (hq : lst_simplify vl K (xs (6 * n + 1)) (xs (6 * n + 2)) (xs (6 * n + 3)) (xs (6 * n + 4)) (xs (6 * n + 5)) zc zm = some S1) (hM : lx_M D q q5 s vl u w zc zm H locs) (hl : lv_has ls 8 [(0, .ref b), (1, .ref (u 0)), (2, .ref (w 0)), (3, .ref (u 52001)), (4, .int (nI (6 * n)))]) (hc : cells + 2 ≤ 600002) (hs : slots + 12 ≤ 7302232) (kk : ∀ (zc1 zm1 : ow_MS) (H1 : Heap) (locs1 : List Loc) (ls1 : Array Slot), lx_M D q q5 s vl u w zc1 zm1 H1 locs1 → lv_has ls1 8 [(0, .ref b), (1, .ref (u 0)), (2, .ref (w 0)), (3, .ref (u 52001)), (4, .int (nI (6 * n)))] → some (vl, zc1, zm1) = some S1 → W p l e room_1 s m args below meth c H1 locs1 (cells + 2) (slots + 12) Q (F0 m 2616 ls1 [])) : W p l e room_1 s m args below meth c H locs cells slots Q (F0 m 1311 ls []) := by
  have hbA : ¬ lx_A s b := Nat.not_le.mpr hbl
  generalize e1 : xs (6 * n + 1) = x1 at hq
  generalize e2 : xs (6 * n + 2) = x2 at hq
  generalize e3 : xs (6 * n + 3) = x3 at hq
  generalize e4 : xs (6 * n + 4) = x4 at hq
  generalize e5 : xs (6 * n + 5) = x5 at hq
  unfold lst_simplify at hq
  refine lv_aload_n hx hb dz_1311 rfl (lv_at hl 1 rfl) ?_
  refine lv_aload_n hx hb dz_1312 rfl (lv_at hl 0 rfl) ?_
  refine lv_iload hx hb dz_1313 (lv_at hl 4 rfl) ?_
  refine lv_iconst (v := 1) hx hb dz_1315 (by decide) ?_
  refine lv_iadd hx hb dz_1316 ?_
  refine ow_topi (y := nI (6 * n + 1)) (nI_add (6 * n) 1) ?_
  refine va_sld hx hb hX hbl hbA hM.2.2.2.2.2 (vp_in_nI (n := 6 * n + 1) (N := L) (by omega) (by omega)) dz_1317 ?_
  refine ow_topi (y := x1) ((congrArg xs (nI_clamp (by omega))).trans e1) ?_
  refine lv_aload_n hx hb dz_1318 rfl (lv_at hl 3 rfl) ?_
  obtain ⟨v2, zc1, hcq, hq⟩ := tw_cl1 hq
  refine lx_wrap hM (vx_runSX (As := [.ref (u 0), .int x1, .ref (u 52001)]) (rest := []) ⟨hx, hb, hml, hown, hts⟩ (kl_L_simplify l D q vl u hM.2.2.1.1 hG.1 sa K 0 x1 (by unfold cw_X11 ci_X11; exact List.mem_singleton.mpr rfl) zc zc1 v2 hcq) (vx_cwSW 3 hts (lx_gS (lx_all wLL_good rfl) (lx_mem hL1 (hZ _ zq_136)) (hZ _ zq_137) (hZ _ zq_138) (hZ _ zq_3) rfl rfl rfl) rfl rfl rfl (by decide +kernel) ⟨(Nat.le_of_ble_eq_true rfl), (Nat.le_of_ble_eq_true rfl)⟩) (lx_preL hG hM) rfl rfl hl.1 rfl (lv_room (Nat.le_of_ble_eq_true rfl)) dz_1319 ⟨(by show _ ≤ 600002; omega), (by show _ ≤ 7302232; omega)⟩) (fun H locs hM => ?_)
  refine lv_istore (lv' := [(5, .int v2), (0, .ref b), (1, .ref (u 0)), (2, .ref (w 0)), (3, .ref (u 52001)), (4, .int (nI (6 * n)))]) hx hb dz_1322 hl (by decide) rfl (fun ls hl => ?_)
  refine lv_aload_n hx hb dz_1324 rfl (lv_at hl 3 rfl) ?_
  refine lv_aload_n hx hb dz_1325 rfl (lv_at hl 1 rfl) ?_
  refine lv_iload hx hb dz_1326 (lv_at hl 5 rfl) ?_
  refine lv_iconst (v := 1) hx hb dz_1328 (by decide) ?_
  refine lv_iadd hx hb dz_1329 ?_
  refine ow_topi (y := nI (6 * n + 1)) (nI_add (6 * n) 1) ?_
  refine va_sld hx hb hX hbl hbA hM.2.2.2.2.2 (vp_in_nI (n := 6 * n + 1) (N := L) (by omega) (by omega)) dz_1330 ?_
  refine ow_topi (y := x1) ((congrArg xs (nI_clamp (by omega))).trans e1) ?_
  obtain ⟨v4, zm3, hcq, hq⟩ := tw_cl1 hq
  refine lx_refi hM (va_runV (As := [.int x1]) (rest := []) ⟨hx, hb, hml, hown, hts⟩ (km_X13_simplify l D q5 w hM.2.2.2.1.1 K x1 zm zm3 v4 hcq) (cwV 1 hts (lx_gV (lx_all wM_good rfl) (lx_mem hM1 (hZ _ zq_139)) (hZ _ zq_140) (hZ _ zq_141) (hZ _ zq_142) (hZ _ zq_8) rfl rfl rfl rfl) rfl rfl rfl cd_X13_simplify ⟨(Nat.le_of_ble_eq_true rfl), (Nat.le_of_ble_eq_true rfl)⟩) (lx_preM hG hM) rfl rfl hl.1 rfl (lv_room (Nat.le_of_ble_eq_true rfl)) dz_1331 ⟨(by show _ ≤ 600002; omega), (by show _ ≤ 7302232; omega)⟩) (fun H locs hM => ?_)
  refine lv_istore (lv' := [(6, .int v4), (5, .int v2), (0, .ref b), (1, .ref (u 0)), (2, .ref (w 0)), (3, .ref (u 52001)), (4, .int (nI (6 * n)))]) hx hb dz_1334 hl (by decide) rfl (fun ls hl => ?_)
  refine lv_aload_n hx hb dz_1336 rfl (lv_at hl 4 rfl) ?_
  obtain ⟨v6, zm5, hcq, hq⟩ := tw_cl1 hq
  refine lx_refi hM (va_runV (As := []) (rest := []) ⟨hx, hb, hml, hown, hts⟩ (km_X13_thrown l D q5 w hM.2.2.2.1.1 K zm3 zm5 v6 hcq) (cwV 0 hts (lx_gV (lx_all wM_good rfl) (lx_mem hM1 (hZ _ zq_9)) (hZ _ zq_10) (hZ _ zq_11) (hZ _ zq_12) (hZ _ zq_8) rfl rfl rfl rfl) rfl rfl rfl cd_X13_thrown ⟨(Nat.le_of_ble_eq_true rfl), (Nat.le_of_ble_eq_true rfl)⟩) (lx_preM hG hM) rfl rfl hl.1 rfl (lv_room (Nat.le_of_ble_eq_true rfl)) dz_1337 ⟨(by show _ ≤ 600002; omega), (by show _ ≤ 7302232; omega)⟩) (fun H locs hM => ?_)
  refine lv_iload hx hb dz_1340 (lv_at hl 1 rfl) ?_
  refine lv_icmp_eq (tgt := 1347) hx hb dz_1342 (by decide) (fun hc9 => ?_) (fun hc9 => ?_)
  · have hq := tw_it hq hc9
    refine lv_iload hx hb dz_1347 (lv_at hl 1 rfl) ?_
    refine lv_if_ne (tgt := 1364) hx hb dz_1349 (by decide) (fun hc9 => ?_) (fun hc9 => ?_)
    · have hq := tw_if hq hc9
      refine lv_goto (tgt := 2616) hx hb dz_1364 (by decide) ?_
      exact kk _ _ H locs ls hM (lv_sub hl [2, 3, 4, 5, 6] rfl) hq
    · have hq := tw_it hq hc9
      refine lv_aload_n hx hb dz_1352 rfl (lv_at hl 5 rfl) ?_
      refine lv_iconst (v := 0) hx hb dz_1353 (by decide) ?_
      refine uw_lald (A := lx_A s) (H0 := s.heap) cX_ok hx hb hG.2.1 ⟨hM.1, hM.2.2.2.2.2⟩ cr_out hq dz_1354 (fun v7 hq => ?_)
      refine lv_iload hx hb dz_1355 (lv_at hl 0 rfl) ?_
      refine lv_i2l hx hb dz_1357 rfl ?_
      refine W.lcmp hx hb dz_1358 ?_
      refine lv_if_eq (tgt := 1364) hx hb dz_1359 (by decide) (fun hc9 => ?_) (fun hc9 => ?_)
      · have hq := tw_it hq hc9
        refine lv_goto (tgt := 2616) hx hb dz_1364 (by decide) ?_
        exact kk _ _ H locs ls hM (lv_sub hl [2, 3, 4, 5, 6] rfl) hq
      · have hq := tw_if hq hc9
        refine lv_iconst (v := 0) hx hb dz_1362 (by decide) ?_
        exact cw_no hq
  · have hq := tw_if hq hc9
    refine lv_iconst (v := 0) hx hb dz_1345 (by decide) ?_
    exact cw_no hq
theorem dz_1367 : decode cL_law 1367 = .ok (.aload_n 1, 1) := by decide +kernel
theorem dz_1368 : decode cL_law 1368 = .ok (.aload_n 0, 1) := by decide +kernel
theorem dz_1369 : decode cL_law 1369 = .ok (.iload 4, 2) := by decide +kernel
theorem dz_1371 : decode cL_law 1371 = .ok (.iconst 1, 1) := by decide +kernel
theorem dz_1372 : decode cL_law 1372 = .ok (.iadd, 1) := by decide +kernel
theorem dz_1373 : decode cL_law 1373 = .ok (.iaload, 1) := by decide +kernel
theorem dz_1374 : decode cL_law 1374 = .ok (.aload_n 0, 1) := by decide +kernel
theorem dz_1375 : decode cL_law 1375 = .ok (.iload 4, 2) := by decide +kernel
theorem dz_1377 : decode cL_law 1377 = .ok (.iconst 2, 1) := by decide +kernel
theorem dz_1378 : decode cL_law 1378 = .ok (.iadd, 1) := by decide +kernel
theorem dz_1379 : decode cL_law 1379 = .ok (.iaload, 1) := by decide +kernel
theorem dz_1380 : decode cL_law 1380 = .ok (.aload_n 3, 1) := by decide +kernel
theorem dz_1381 : decode cL_law 1381 = .ok (.invokestatic 205, 3) := by decide +kernel
theorem dz_1384 : decode cL_law 1384 = .ok (.istore 5, 2) := by decide +kernel
theorem dz_1386 : decode cL_law 1386 = .ok (.aload_n 2, 1) := by decide +kernel
theorem dz_1387 : decode cL_law 1387 = .ok (.aload_n 0, 1) := by decide +kernel
theorem dz_1388 : decode cL_law 1388 = .ok (.iload 4, 2) := by decide +kernel
theorem dz_1390 : decode cL_law 1390 = .ok (.iconst 1, 1) := by decide +kernel
theorem dz_1391 : decode cL_law 1391 = .ok (.iadd, 1) := by decide +kernel
theorem dz_1392 : decode cL_law 1392 = .ok (.iaload, 1) := by decide +kernel
theorem dz_1393 : decode cL_law 1393 = .ok (.aload_n 0, 1) := by decide +kernel
theorem dz_1394 : decode cL_law 1394 = .ok (.iload 4, 2) := by decide +kernel
theorem dz_1396 : decode cL_law 1396 = .ok (.iconst 2, 1) := by decide +kernel
theorem dz_1397 : decode cL_law 1397 = .ok (.iadd, 1) := by decide +kernel
theorem dz_1398 : decode cL_law 1398 = .ok (.iaload, 1) := by decide +kernel
theorem dz_1399 : decode cL_law 1399 = .ok (.invokevirtual 207, 3) := by decide +kernel
theorem dz_1402 : decode cL_law 1402 = .ok (.istore 6, 2) := by decide +kernel
theorem dz_1404 : decode cL_law 1404 = .ok (.aload_n 2, 1) := by decide +kernel
theorem dz_1405 : decode cL_law 1405 = .ok (.invokevirtual 137, 3) := by decide +kernel
theorem dz_1408 : decode cL_law 1408 = .ok (.iload 5, 2) := by decide +kernel
theorem dz_1410 : decode cL_law 1410 = .ok (.if_icmp .eq 5, 3) := by decide +kernel
theorem dz_1413 : decode cL_law 1413 = .ok (.iconst 0, 1) := by decide +kernel
theorem dz_1414 : decode cL_law 1414 = .ok (.ireturn, 1) := by decide +kernel
theorem dz_1415 : decode cL_law 1415 = .ok (.iload 5, 2) := by decide +kernel
theorem dz_1417 : decode cL_law 1417 = .ok (.ifCond .ne 15, 3) := by decide +kernel
theorem dz_1420 : decode cL_law 1420 = .ok (.aload_n 3, 1) := by decide +kernel
theorem dz_1421 : decode cL_law 1421 = .ok (.iconst 0, 1) := by decide +kernel
theorem dz_1422 : decode cL_law 1422 = .ok (.laload, 1) := by decide +kernel
theorem dz_1423 : decode cL_law 1423 = .ok (.iload 6, 2) := by decide +kernel
theorem dz_1425 : decode cL_law 1425 = .ok (.i2l, 1) := by decide +kernel
theorem dz_1426 : decode cL_law 1426 = .ok (.lcmp, 1) := by decide +kernel
theorem dz_1427 : decode cL_law 1427 = .ok (.ifCond .eq 5, 3) := by decide +kernel
theorem dz_1430 : decode cL_law 1430 = .ok (.iconst 0, 1) := by decide +kernel
theorem dz_1431 : decode cL_law 1431 = .ok (.ireturn, 1) := by decide +kernel
theorem dz_1432 : decode cL_law 1432 = .ok (.goto 1184, 3) := by decide +kernel
def lst_way (vl : Nat → Nat) (K : Nat) (x1 : Int32) (x2 : Int32) (x3 : Int32) (x4 : Int32) (x5 : Int32) (zc zm : ow_MS) : Option ow_LwS :=
 cs1 (le_L_way vl K 0 x1 x2 zc) fun v2 zc1 => cs1 (qe_X13_way K x1 x2 zm) fun v4 zm3 => cs1 (qe_X13_thrown K zm3) fun v6 zm5 => (if v6 = v2 then (if v2 = 0 then crJ (cX vl) zc1 52001 0 fun v7 => (if (lg_cmp v7 v4.toInt64) = 0 then some (vl, zc1, zm5)
 else none)
 else some (vl, zc1, zm5))
 else none)
set_option maxHeartbeats 4000000 in
set_option maxRecDepth 100000 in
theorem lxc_way {p : Program} {l : Launch} {e : Env} {s : State} {m : MethodId} {args : Array Value} {below : List Frame} {meth : Method} {c : Code} {b L K n : Nat} {xs : Nat → Int32} {D : va_G} {q : Nat → ClassId} {q5 : ow_Q5} {vl u w sa : Nat → Nat} {zc zm : ow_MS} {S1 : ow_LwS} {Ts : List Cond} {Q : State → Prop} {H : Heap} {locs : List Loc} {ls : Array Slot} {cells slots : Nat} (hx : p.tables.exec = Jvm.exec) (hb : c.code = cL_law) (hml : c.maxLocals = 8) (hown : s.vm.findClass RL = some m.cls) (hts : ∀ w ∈ Ts, w.before args s = true) (hX : va_X b L xs s s.heap) (hbl : b < s.heap.size) (hZ : ∀ w ∈ wZ, w ∈ Ts) (hL1 : ∀ w ∈ wLL, w ∈ Ts) (hC1 : ∀ w ∈ wC, w ∈ Ts) (hM1 : ∀ w ∈ wM, w ∈ Ts) (hG : lx_G l s D q q5 sa) (hLn : L ≤ 3072) (hn : 6 * n + 6 ≤ L) (hq : lst_way vl K (xs (6 * n + 1)) (xs (6 * n + 2)) (xs (6 * n + 3)) (xs (6 * n + 4)) (xs (6 * n + 5)) zc zm = some S1) (hM : lx_M D q q5 s vl u w zc zm H locs) (hl : lv_has ls 8 [(0, .ref b), (1, .ref (u 0)), (2, .ref (w 0)), (3, .ref (u 52001)), (4, .int (nI (6 * n)))]) (hc : cells + 3 ≤ 600002) (hs : slots + 18 ≤ 7302232) (kk : ∀ (zc1 zm1 : ow_MS) (H1 : Heap) (locs1 : List Loc) (ls1 : Array Slot), lx_M D q q5 s vl u w zc1 zm1 H1 locs1 → lv_has ls1 8 [(0, .ref b), (1, .ref (u 0)), (2, .ref (w 0)), (3, .ref (u 52001)), (4, .int (nI (6 * n)))] → some (vl, zc1, zm1) = some S1 → W p l e room_1 s m args below meth c H1 locs1 (cells + 3) (slots + 18) Q (F0 m 2616 ls1 [])) : W p l e room_1 s m args below meth c H locs cells slots Q (F0 m 1367 ls []) := by
  have hbA : ¬ lx_A s b := Nat.not_le.mpr hbl
  generalize e1 : xs (6 * n + 1) = x1 at hq
  generalize e2 : xs (6 * n + 2) = x2 at hq
  generalize e3 : xs (6 * n + 3) = x3 at hq
  generalize e4 : xs (6 * n + 4) = x4 at hq
  generalize e5 : xs (6 * n + 5) = x5 at hq
  unfold lst_way at hq
  refine lv_aload_n hx hb dz_1367 rfl (lv_at hl 1 rfl) ?_
  refine lv_aload_n hx hb dz_1368 rfl (lv_at hl 0 rfl) ?_
  refine lv_iload hx hb dz_1369 (lv_at hl 4 rfl) ?_
  refine lv_iconst (v := 1) hx hb dz_1371 (by decide) ?_
  refine lv_iadd hx hb dz_1372 ?_
  refine ow_topi (y := nI (6 * n + 1)) (nI_add (6 * n) 1) ?_
  refine va_sld hx hb hX hbl hbA hM.2.2.2.2.2 (vp_in_nI (n := 6 * n + 1) (N := L) (by omega) (by omega)) dz_1373 ?_
  refine ow_topi (y := x1) ((congrArg xs (nI_clamp (by omega))).trans e1) ?_
  refine lv_aload_n hx hb dz_1374 rfl (lv_at hl 0 rfl) ?_
  refine lv_iload hx hb dz_1375 (lv_at hl 4 rfl) ?_
  refine lv_iconst (v := 2) hx hb dz_1377 (by decide) ?_
  refine lv_iadd hx hb dz_1378 ?_
  refine ow_topi (y := nI (6 * n + 2)) (nI_add (6 * n) 2) ?_
  refine va_sld hx hb hX hbl hbA hM.2.2.2.2.2 (vp_in_nI (n := 6 * n + 2) (N := L) (by omega) (by omega)) dz_1379 ?_
  refine ow_topi (y := x2) ((congrArg xs (nI_clamp (by omega))).trans e2) ?_
  refine lv_aload_n hx hb dz_1380 rfl (lv_at hl 3 rfl) ?_
  obtain ⟨v2, zc1, hcq, hq⟩ := tw_cl1 hq
  refine lx_wrap hM (vx_runSX (As := [.ref (u 0), .int x1, .int x2, .ref (u 52001)]) (rest := []) ⟨hx, hb, hml, hown, hts⟩ (kl_L_way l D q vl u hM.2.2.1.1 hG.1 sa K 0 x1 x2 (by unfold cw_X11 ci_X11; exact List.mem_singleton.mpr rfl) zc zc1 v2 hcq) (vx_cwSW 4 hts (lx_gS (lx_all wLL_good rfl) (lx_mem hL1 (hZ _ zq_143)) (hZ _ zq_144) (hZ _ zq_145) (hZ _ zq_3) rfl rfl rfl) rfl rfl rfl (by decide +kernel) ⟨(Nat.le_of_ble_eq_true rfl), (Nat.le_of_ble_eq_true rfl)⟩) (lx_preL hG hM) rfl rfl hl.1 rfl (lv_room (Nat.le_of_ble_eq_true rfl)) dz_1381 ⟨(by show _ ≤ 600002; omega), (by show _ ≤ 7302232; omega)⟩) (fun H locs hM => ?_)
  refine lv_istore (lv' := [(5, .int v2), (0, .ref b), (1, .ref (u 0)), (2, .ref (w 0)), (3, .ref (u 52001)), (4, .int (nI (6 * n)))]) hx hb dz_1384 hl (by decide) rfl (fun ls hl => ?_)
  refine lv_aload_n hx hb dz_1386 rfl (lv_at hl 3 rfl) ?_
  refine lv_aload_n hx hb dz_1387 rfl (lv_at hl 1 rfl) ?_
  refine lv_iload hx hb dz_1388 (lv_at hl 5 rfl) ?_
  refine lv_iconst (v := 1) hx hb dz_1390 (by decide) ?_
  refine lv_iadd hx hb dz_1391 ?_
  refine ow_topi (y := nI (6 * n + 1)) (nI_add (6 * n) 1) ?_
  refine va_sld hx hb hX hbl hbA hM.2.2.2.2.2 (vp_in_nI (n := 6 * n + 1) (N := L) (by omega) (by omega)) dz_1392 ?_
  refine ow_topi (y := x1) ((congrArg xs (nI_clamp (by omega))).trans e1) ?_
  refine lv_aload_n hx hb dz_1393 rfl (lv_at hl 1 rfl) ?_
  refine lv_iload hx hb dz_1394 (lv_at hl 5 rfl) ?_
  refine lv_iconst (v := 2) hx hb dz_1396 (by decide) ?_
  refine lv_iadd hx hb dz_1397 ?_
  refine ow_topi (y := nI (6 * n + 2)) (nI_add (6 * n) 2) ?_
  refine va_sld hx hb hX hbl hbA hM.2.2.2.2.2 (vp_in_nI (n := 6 * n + 2) (N := L) (by omega) (by omega)) dz_1398 ?_
  refine ow_topi (y := x2) ((congrArg xs (nI_clamp (by omega))).trans e2) ?_
  obtain ⟨v4, zm3, hcq, hq⟩ := tw_cl1 hq
  refine lx_refi hM (va_runV (As := [.int x1, .int x2]) (rest := []) ⟨hx, hb, hml, hown, hts⟩ (km_X13_way l D q5 w hM.2.2.2.1.1 K x1 x2 zm zm3 v4 hcq) (cwV 2 hts (lx_gV (lx_all wM_good rfl) (lx_mem hM1 (hZ _ zq_146)) (hZ _ zq_147) (hZ _ zq_148) (hZ _ zq_149) (hZ _ zq_8) rfl rfl rfl rfl) rfl rfl rfl cd_X13_way ⟨(Nat.le_of_ble_eq_true rfl), (Nat.le_of_ble_eq_true rfl)⟩) (lx_preM hG hM) rfl rfl hl.1 rfl (lv_room (Nat.le_of_ble_eq_true rfl)) dz_1399 ⟨(by show _ ≤ 600002; omega), (by show _ ≤ 7302232; omega)⟩) (fun H locs hM => ?_)
  refine lv_istore (lv' := [(6, .int v4), (5, .int v2), (0, .ref b), (1, .ref (u 0)), (2, .ref (w 0)), (3, .ref (u 52001)), (4, .int (nI (6 * n)))]) hx hb dz_1402 hl (by decide) rfl (fun ls hl => ?_)
  refine lv_aload_n hx hb dz_1404 rfl (lv_at hl 4 rfl) ?_
  obtain ⟨v6, zm5, hcq, hq⟩ := tw_cl1 hq
  refine lx_refi hM (va_runV (As := []) (rest := []) ⟨hx, hb, hml, hown, hts⟩ (km_X13_thrown l D q5 w hM.2.2.2.1.1 K zm3 zm5 v6 hcq) (cwV 0 hts (lx_gV (lx_all wM_good rfl) (lx_mem hM1 (hZ _ zq_9)) (hZ _ zq_10) (hZ _ zq_11) (hZ _ zq_12) (hZ _ zq_8) rfl rfl rfl rfl) rfl rfl rfl cd_X13_thrown ⟨(Nat.le_of_ble_eq_true rfl), (Nat.le_of_ble_eq_true rfl)⟩) (lx_preM hG hM) rfl rfl hl.1 rfl (lv_room (Nat.le_of_ble_eq_true rfl)) dz_1405 ⟨(by show _ ≤ 600002; omega), (by show _ ≤ 7302232; omega)⟩) (fun H locs hM => ?_)
  refine lv_iload hx hb dz_1408 (lv_at hl 1 rfl) ?_
  refine lv_icmp_eq (tgt := 1415) hx hb dz_1410 (by decide) (fun hc9 => ?_) (fun hc9 => ?_)
  · have hq := tw_it hq hc9
    refine lv_iload hx hb dz_1415 (lv_at hl 1 rfl) ?_
    refine lv_if_ne (tgt := 1432) hx hb dz_1417 (by decide) (fun hc9 => ?_) (fun hc9 => ?_)
    · have hq := tw_if hq hc9
      refine lv_goto (tgt := 2616) hx hb dz_1432 (by decide) ?_
      exact kk _ _ H locs ls hM (lv_sub hl [2, 3, 4, 5, 6] rfl) hq
    · have hq := tw_it hq hc9
      refine lv_aload_n hx hb dz_1420 rfl (lv_at hl 5 rfl) ?_
      refine lv_iconst (v := 0) hx hb dz_1421 (by decide) ?_
      refine uw_lald (A := lx_A s) (H0 := s.heap) cX_ok hx hb hG.2.1 ⟨hM.1, hM.2.2.2.2.2⟩ cr_out hq dz_1422 (fun v7 hq => ?_)
      refine lv_iload hx hb dz_1423 (lv_at hl 0 rfl) ?_
      refine lv_i2l hx hb dz_1425 rfl ?_
      refine W.lcmp hx hb dz_1426 ?_
      refine lv_if_eq (tgt := 1432) hx hb dz_1427 (by decide) (fun hc9 => ?_) (fun hc9 => ?_)
      · have hq := tw_it hq hc9
        refine lv_goto (tgt := 2616) hx hb dz_1432 (by decide) ?_
        exact kk _ _ H locs ls hM (lv_sub hl [2, 3, 4, 5, 6] rfl) hq
      · have hq := tw_if hq hc9
        refine lv_iconst (v := 0) hx hb dz_1430 (by decide) ?_
        exact cw_no hq
  · have hq := tw_if hq hc9
    refine lv_iconst (v := 0) hx hb dz_1413 (by decide) ?_
    exact cw_no hq
theorem dz_1435 : decode cL_law 1435 = .ok (.aload_n 1, 1) := by decide +kernel
theorem dz_1436 : decode cL_law 1436 = .ok (.aload_n 0, 1) := by decide +kernel
theorem dz_1437 : decode cL_law 1437 = .ok (.iload 4, 2) := by decide +kernel
theorem dz_1439 : decode cL_law 1439 = .ok (.iconst 1, 1) := by decide +kernel
theorem dz_1440 : decode cL_law 1440 = .ok (.iadd, 1) := by decide +kernel
theorem dz_1441 : decode cL_law 1441 = .ok (.iaload, 1) := by decide +kernel
theorem dz_1442 : decode cL_law 1442 = .ok (.aload_n 3, 1) := by decide +kernel
theorem dz_1443 : decode cL_law 1443 = .ok (.invokestatic 208, 3) := by decide +kernel
theorem dz_1446 : decode cL_law 1446 = .ok (.istore 5, 2) := by decide +kernel
theorem dz_1448 : decode cL_law 1448 = .ok (.aload_n 2, 1) := by decide +kernel
theorem dz_1449 : decode cL_law 1449 = .ok (.aload_n 0, 1) := by decide +kernel
theorem dz_1450 : decode cL_law 1450 = .ok (.iload 4, 2) := by decide +kernel
theorem dz_1452 : decode cL_law 1452 = .ok (.iconst 1, 1) := by decide +kernel
theorem dz_1453 : decode cL_law 1453 = .ok (.iadd, 1) := by decide +kernel
theorem dz_1454 : decode cL_law 1454 = .ok (.iaload, 1) := by decide +kernel
theorem dz_1455 : decode cL_law 1455 = .ok (.invokevirtual 210, 3) := by decide +kernel
theorem dz_1458 : decode cL_law 1458 = .ok (.istore 6, 2) := by decide +kernel
theorem dz_1460 : decode cL_law 1460 = .ok (.aload_n 2, 1) := by decide +kernel
theorem dz_1461 : decode cL_law 1461 = .ok (.invokevirtual 137, 3) := by decide +kernel
theorem dz_1464 : decode cL_law 1464 = .ok (.iload 5, 2) := by decide +kernel
theorem dz_1466 : decode cL_law 1466 = .ok (.if_icmp .eq 5, 3) := by decide +kernel
theorem dz_1469 : decode cL_law 1469 = .ok (.iconst 0, 1) := by decide +kernel
theorem dz_1470 : decode cL_law 1470 = .ok (.ireturn, 1) := by decide +kernel
theorem dz_1471 : decode cL_law 1471 = .ok (.iload 5, 2) := by decide +kernel
theorem dz_1473 : decode cL_law 1473 = .ok (.ifCond .ne 15, 3) := by decide +kernel
theorem dz_1476 : decode cL_law 1476 = .ok (.aload_n 3, 1) := by decide +kernel
theorem dz_1477 : decode cL_law 1477 = .ok (.iconst 0, 1) := by decide +kernel
theorem dz_1478 : decode cL_law 1478 = .ok (.laload, 1) := by decide +kernel
theorem dz_1479 : decode cL_law 1479 = .ok (.iload 6, 2) := by decide +kernel
theorem dz_1481 : decode cL_law 1481 = .ok (.i2l, 1) := by decide +kernel
theorem dz_1482 : decode cL_law 1482 = .ok (.lcmp, 1) := by decide +kernel
theorem dz_1483 : decode cL_law 1483 = .ok (.ifCond .eq 5, 3) := by decide +kernel
theorem dz_1486 : decode cL_law 1486 = .ok (.iconst 0, 1) := by decide +kernel
theorem dz_1487 : decode cL_law 1487 = .ok (.ireturn, 1) := by decide +kernel
theorem dz_1488 : decode cL_law 1488 = .ok (.goto 1128, 3) := by decide +kernel
def lst_summands (vl : Nat → Nat) (K : Nat) (x1 : Int32) (x2 : Int32) (x3 : Int32) (x4 : Int32) (x5 : Int32) (zc zm : ow_MS) : Option ow_LwS :=
 cs1 (le_L_summands vl K 0 x1 zc) fun v2 zc1 => cs1 (qe_X13_summands K x1 zm) fun v4 zm3 => cs1 (qe_X13_thrown K zm3) fun v6 zm5 => (if v6 = v2 then (if v2 = 0 then crJ (cX vl) zc1 52001 0 fun v7 => (if (lg_cmp v7 v4.toInt64) = 0 then some (vl, zc1, zm5)
 else none)
 else some (vl, zc1, zm5))
 else none)
set_option maxHeartbeats 4000000 in
set_option maxRecDepth 100000 in
theorem lxc_summands {p : Program} {l : Launch} {e : Env} {s : State} {m : MethodId} {args : Array Value} {below : List Frame} {meth : Method} {c : Code} {b L K n : Nat} {xs : Nat → Int32} {D : va_G} {q : Nat → ClassId} {q5 : ow_Q5} {vl u w sa : Nat → Nat} {zc zm : ow_MS} {S1 : ow_LwS} {Ts : List Cond} {Q : State → Prop} {H : Heap} {locs : List Loc} {ls : Array Slot} {cells slots : Nat} (hx : p.tables.exec = Jvm.exec) (hb : c.code = cL_law) (hml : c.maxLocals = 8) (hown : s.vm.findClass RL = some m.cls) (hts : ∀ w ∈ Ts, w.before args s = true) (hX : va_X b L xs s s.heap) (hbl : b < s.heap.size) (hZ : ∀ w ∈ wZ, w ∈ Ts) (hL1 : ∀ w ∈ wLL, w ∈ Ts) (hC1 : ∀ w ∈ wC, w ∈ Ts) (hM1 : ∀ w ∈ wM, w ∈ Ts) (hG : lx_G l s D q q5 sa) (hLn : L ≤ 3072) (hn : 6 * n + 6 ≤ L) (hq : lst_summands vl K (xs (6 * n + 1)) (xs (6 * n + 2)) (xs (6 * n + 3)) (xs (6 * n + 4)) (xs (6 * n + 5)) zc zm = some S1) (hM : lx_M D q q5 s vl u w zc zm H locs) (hl : lv_has ls 8 [(0, .ref b), (1, .ref (u 0)), (2, .ref (w 0)), (3, .ref (u 52001)), (4, .int (nI (6 * n)))]) (hc : cells + 1 ≤ 600002) (hs : slots + 6 ≤ 7302232) (kk : ∀ (zc1 zm1 : ow_MS) (H1 : Heap) (locs1 : List Loc) (ls1 : Array Slot), lx_M D q q5 s vl u w zc1 zm1 H1 locs1 → lv_has ls1 8 [(0, .ref b), (1, .ref (u 0)), (2, .ref (w 0)), (3, .ref (u 52001)), (4, .int (nI (6 * n)))] → some (vl, zc1, zm1) = some S1 → W p l e room_1 s m args below meth c H1 locs1 (cells + 1) (slots + 6) Q (F0 m 2616 ls1 [])) : W p l e room_1 s m args below meth c H locs cells slots Q (F0 m 1435 ls []) := by
  have hbA : ¬ lx_A s b := Nat.not_le.mpr hbl
  generalize e1 : xs (6 * n + 1) = x1 at hq
  generalize e2 : xs (6 * n + 2) = x2 at hq
  generalize e3 : xs (6 * n + 3) = x3 at hq
  generalize e4 : xs (6 * n + 4) = x4 at hq
  generalize e5 : xs (6 * n + 5) = x5 at hq
  unfold lst_summands at hq
  refine lv_aload_n hx hb dz_1435 rfl (lv_at hl 1 rfl) ?_
  refine lv_aload_n hx hb dz_1436 rfl (lv_at hl 0 rfl) ?_
  refine lv_iload hx hb dz_1437 (lv_at hl 4 rfl) ?_
  refine lv_iconst (v := 1) hx hb dz_1439 (by decide) ?_
  refine lv_iadd hx hb dz_1440 ?_
  refine ow_topi (y := nI (6 * n + 1)) (nI_add (6 * n) 1) ?_
  refine va_sld hx hb hX hbl hbA hM.2.2.2.2.2 (vp_in_nI (n := 6 * n + 1) (N := L) (by omega) (by omega)) dz_1441 ?_
  refine ow_topi (y := x1) ((congrArg xs (nI_clamp (by omega))).trans e1) ?_
  refine lv_aload_n hx hb dz_1442 rfl (lv_at hl 3 rfl) ?_
  obtain ⟨v2, zc1, hcq, hq⟩ := tw_cl1 hq
  refine lx_wrap hM (vx_runSX (As := [.ref (u 0), .int x1, .ref (u 52001)]) (rest := []) ⟨hx, hb, hml, hown, hts⟩ (kl_L_summands l D q vl u hM.2.2.1.1 hG.1 sa K 0 x1 (by unfold cw_X11 ci_X11; exact List.mem_singleton.mpr rfl) zc zc1 v2 hcq) (vx_cwSW 3 hts (lx_gS (lx_all wLL_good rfl) (lx_mem hL1 (hZ _ zq_150)) (hZ _ zq_151) (hZ _ zq_152) (hZ _ zq_3) rfl rfl rfl) rfl rfl rfl (by decide +kernel) ⟨(Nat.le_of_ble_eq_true rfl), (Nat.le_of_ble_eq_true rfl)⟩) (lx_preL hG hM) rfl rfl hl.1 rfl (lv_room (Nat.le_of_ble_eq_true rfl)) dz_1443 ⟨(by show _ ≤ 600002; omega), (by show _ ≤ 7302232; omega)⟩) (fun H locs hM => ?_)
  refine lv_istore (lv' := [(5, .int v2), (0, .ref b), (1, .ref (u 0)), (2, .ref (w 0)), (3, .ref (u 52001)), (4, .int (nI (6 * n)))]) hx hb dz_1446 hl (by decide) rfl (fun ls hl => ?_)
  refine lv_aload_n hx hb dz_1448 rfl (lv_at hl 3 rfl) ?_
  refine lv_aload_n hx hb dz_1449 rfl (lv_at hl 1 rfl) ?_
  refine lv_iload hx hb dz_1450 (lv_at hl 5 rfl) ?_
  refine lv_iconst (v := 1) hx hb dz_1452 (by decide) ?_
  refine lv_iadd hx hb dz_1453 ?_
  refine ow_topi (y := nI (6 * n + 1)) (nI_add (6 * n) 1) ?_
  refine va_sld hx hb hX hbl hbA hM.2.2.2.2.2 (vp_in_nI (n := 6 * n + 1) (N := L) (by omega) (by omega)) dz_1454 ?_
  refine ow_topi (y := x1) ((congrArg xs (nI_clamp (by omega))).trans e1) ?_
  obtain ⟨v4, zm3, hcq, hq⟩ := tw_cl1 hq
  refine lx_refi hM (va_runV (As := [.int x1]) (rest := []) ⟨hx, hb, hml, hown, hts⟩ (km_X13_summands l D q5 w hM.2.2.2.1.1 K x1 zm zm3 v4 hcq) (cwV 1 hts (lx_gV (lx_all wM_good rfl) (lx_mem hM1 (hZ _ zq_153)) (hZ _ zq_154) (hZ _ zq_155) (hZ _ zq_156) (hZ _ zq_8) rfl rfl rfl rfl) rfl rfl rfl cd_X13_summands ⟨(Nat.le_of_ble_eq_true rfl), (Nat.le_of_ble_eq_true rfl)⟩) (lx_preM hG hM) rfl rfl hl.1 rfl (lv_room (Nat.le_of_ble_eq_true rfl)) dz_1455 ⟨(by show _ ≤ 600002; omega), (by show _ ≤ 7302232; omega)⟩) (fun H locs hM => ?_)
  refine lv_istore (lv' := [(6, .int v4), (5, .int v2), (0, .ref b), (1, .ref (u 0)), (2, .ref (w 0)), (3, .ref (u 52001)), (4, .int (nI (6 * n)))]) hx hb dz_1458 hl (by decide) rfl (fun ls hl => ?_)
  refine lv_aload_n hx hb dz_1460 rfl (lv_at hl 4 rfl) ?_
  obtain ⟨v6, zm5, hcq, hq⟩ := tw_cl1 hq
  refine lx_refi hM (va_runV (As := []) (rest := []) ⟨hx, hb, hml, hown, hts⟩ (km_X13_thrown l D q5 w hM.2.2.2.1.1 K zm3 zm5 v6 hcq) (cwV 0 hts (lx_gV (lx_all wM_good rfl) (lx_mem hM1 (hZ _ zq_9)) (hZ _ zq_10) (hZ _ zq_11) (hZ _ zq_12) (hZ _ zq_8) rfl rfl rfl rfl) rfl rfl rfl cd_X13_thrown ⟨(Nat.le_of_ble_eq_true rfl), (Nat.le_of_ble_eq_true rfl)⟩) (lx_preM hG hM) rfl rfl hl.1 rfl (lv_room (Nat.le_of_ble_eq_true rfl)) dz_1461 ⟨(by show _ ≤ 600002; omega), (by show _ ≤ 7302232; omega)⟩) (fun H locs hM => ?_)
  refine lv_iload hx hb dz_1464 (lv_at hl 1 rfl) ?_
  refine lv_icmp_eq (tgt := 1471) hx hb dz_1466 (by decide) (fun hc9 => ?_) (fun hc9 => ?_)
  · have hq := tw_it hq hc9
    refine lv_iload hx hb dz_1471 (lv_at hl 1 rfl) ?_
    refine lv_if_ne (tgt := 1488) hx hb dz_1473 (by decide) (fun hc9 => ?_) (fun hc9 => ?_)
    · have hq := tw_if hq hc9
      refine lv_goto (tgt := 2616) hx hb dz_1488 (by decide) ?_
      exact kk _ _ H locs ls hM (lv_sub hl [2, 3, 4, 5, 6] rfl) hq
    · have hq := tw_it hq hc9
      refine lv_aload_n hx hb dz_1476 rfl (lv_at hl 5 rfl) ?_
      refine lv_iconst (v := 0) hx hb dz_1477 (by decide) ?_
      refine uw_lald (A := lx_A s) (H0 := s.heap) cX_ok hx hb hG.2.1 ⟨hM.1, hM.2.2.2.2.2⟩ cr_out hq dz_1478 (fun v7 hq => ?_)
      refine lv_iload hx hb dz_1479 (lv_at hl 0 rfl) ?_
      refine lv_i2l hx hb dz_1481 rfl ?_
      refine W.lcmp hx hb dz_1482 ?_
      refine lv_if_eq (tgt := 1488) hx hb dz_1483 (by decide) (fun hc9 => ?_) (fun hc9 => ?_)
      · have hq := tw_it hq hc9
        refine lv_goto (tgt := 2616) hx hb dz_1488 (by decide) ?_
        exact kk _ _ H locs ls hM (lv_sub hl [2, 3, 4, 5, 6] rfl) hq
      · have hq := tw_if hq hc9
        refine lv_iconst (v := 0) hx hb dz_1486 (by decide) ?_
        exact cw_no hq
  · have hq := tw_if hq hc9
    refine lv_iconst (v := 0) hx hb dz_1469 (by decide) ?_
    exact cw_no hq
theorem dz_1491 : decode cL_law 1491 = .ok (.aload_n 1, 1) := by decide +kernel
theorem dz_1492 : decode cL_law 1492 = .ok (.aload_n 0, 1) := by decide +kernel
theorem dz_1493 : decode cL_law 1493 = .ok (.iload 4, 2) := by decide +kernel
theorem dz_1495 : decode cL_law 1495 = .ok (.iconst 1, 1) := by decide +kernel
theorem dz_1496 : decode cL_law 1496 = .ok (.iadd, 1) := by decide +kernel
theorem dz_1497 : decode cL_law 1497 = .ok (.iaload, 1) := by decide +kernel
theorem dz_1498 : decode cL_law 1498 = .ok (.aload_n 3, 1) := by decide +kernel
theorem dz_1499 : decode cL_law 1499 = .ok (.invokestatic 211, 3) := by decide +kernel
theorem dz_1502 : decode cL_law 1502 = .ok (.istore 5, 2) := by decide +kernel
theorem dz_1504 : decode cL_law 1504 = .ok (.aload_n 2, 1) := by decide +kernel
theorem dz_1505 : decode cL_law 1505 = .ok (.aload_n 0, 1) := by decide +kernel
theorem dz_1506 : decode cL_law 1506 = .ok (.iload 4, 2) := by decide +kernel
theorem dz_1508 : decode cL_law 1508 = .ok (.iconst 1, 1) := by decide +kernel
theorem dz_1509 : decode cL_law 1509 = .ok (.iadd, 1) := by decide +kernel
theorem dz_1510 : decode cL_law 1510 = .ok (.iaload, 1) := by decide +kernel
theorem dz_1511 : decode cL_law 1511 = .ok (.invokevirtual 213, 3) := by decide +kernel
theorem dz_1514 : decode cL_law 1514 = .ok (.istore 6, 2) := by decide +kernel
theorem dz_1516 : decode cL_law 1516 = .ok (.aload_n 2, 1) := by decide +kernel
theorem dz_1517 : decode cL_law 1517 = .ok (.invokevirtual 137, 3) := by decide +kernel
theorem dz_1520 : decode cL_law 1520 = .ok (.iload 5, 2) := by decide +kernel
theorem dz_1522 : decode cL_law 1522 = .ok (.if_icmp .eq 5, 3) := by decide +kernel
theorem dz_1525 : decode cL_law 1525 = .ok (.iconst 0, 1) := by decide +kernel
theorem dz_1526 : decode cL_law 1526 = .ok (.ireturn, 1) := by decide +kernel
theorem dz_1527 : decode cL_law 1527 = .ok (.iload 5, 2) := by decide +kernel
theorem dz_1529 : decode cL_law 1529 = .ok (.ifCond .ne 15, 3) := by decide +kernel
theorem dz_1532 : decode cL_law 1532 = .ok (.aload_n 3, 1) := by decide +kernel
theorem dz_1533 : decode cL_law 1533 = .ok (.iconst 0, 1) := by decide +kernel
theorem dz_1534 : decode cL_law 1534 = .ok (.laload, 1) := by decide +kernel
theorem dz_1535 : decode cL_law 1535 = .ok (.iload 6, 2) := by decide +kernel
theorem dz_1537 : decode cL_law 1537 = .ok (.i2l, 1) := by decide +kernel
theorem dz_1538 : decode cL_law 1538 = .ok (.lcmp, 1) := by decide +kernel
theorem dz_1539 : decode cL_law 1539 = .ok (.ifCond .eq 5, 3) := by decide +kernel
theorem dz_1542 : decode cL_law 1542 = .ok (.iconst 0, 1) := by decide +kernel
theorem dz_1543 : decode cL_law 1543 = .ok (.ireturn, 1) := by decide +kernel
theorem dz_1544 : decode cL_law 1544 = .ok (.goto 1072, 3) := by decide +kernel
def lst_summand (vl : Nat → Nat) (K : Nat) (x1 : Int32) (x2 : Int32) (x3 : Int32) (x4 : Int32) (x5 : Int32) (zc zm : ow_MS) : Option ow_LwS :=
 cs1 (le_L_summand vl K 0 x1 zc) fun v2 zc1 => cs1 (qe_X13_summand K x1 zm) fun v4 zm3 => cs1 (qe_X13_thrown K zm3) fun v6 zm5 => (if v6 = v2 then (if v2 = 0 then crJ (cX vl) zc1 52001 0 fun v7 => (if (lg_cmp v7 v4.toInt64) = 0 then some (vl, zc1, zm5)
 else none)
 else some (vl, zc1, zm5))
 else none)
set_option maxHeartbeats 4000000 in
set_option maxRecDepth 100000 in
theorem lxc_summand {p : Program} {l : Launch} {e : Env} {s : State} {m : MethodId} {args : Array Value} {below : List Frame} {meth : Method} {c : Code} {b L K n : Nat} {xs : Nat → Int32} {D : va_G} {q : Nat → ClassId} {q5 : ow_Q5} {vl u w sa : Nat → Nat} {zc zm : ow_MS} {S1 : ow_LwS} {Ts : List Cond} {Q : State → Prop} {H : Heap} {locs : List Loc} {ls : Array Slot} {cells slots : Nat} (hx : p.tables.exec = Jvm.exec) (hb : c.code = cL_law) (hml : c.maxLocals = 8) (hown : s.vm.findClass RL = some m.cls) (hts : ∀ w ∈ Ts, w.before args s = true) (hX : va_X b L xs s s.heap) (hbl : b < s.heap.size) (hZ : ∀ w ∈ wZ, w ∈ Ts) (hL1 : ∀ w ∈ wLL, w ∈ Ts) (hC1 : ∀ w ∈ wC, w ∈ Ts) (hM1 : ∀ w ∈ wM, w ∈ Ts) (hG : lx_G l s D q q5 sa) (hLn : L ≤ 3072) (hn : 6 * n + 6 ≤ L) (hq : lst_summand vl K (xs (6 * n + 1)) (xs (6 * n + 2)) (xs (6 * n + 3)) (xs (6 * n + 4)) (xs (6 * n + 5)) zc zm = some S1) (hM : lx_M D q q5 s vl u w zc zm H locs) (hl : lv_has ls 8 [(0, .ref b), (1, .ref (u 0)), (2, .ref (w 0)), (3, .ref (u 52001)), (4, .int (nI (6 * n)))]) (hc : cells + 2 ≤ 600002) (hs : slots + 12 ≤ 7302232) (kk : ∀ (zc1 zm1 : ow_MS) (H1 : Heap) (locs1 : List Loc) (ls1 : Array Slot), lx_M D q q5 s vl u w zc1 zm1 H1 locs1 → lv_has ls1 8 [(0, .ref b), (1, .ref (u 0)), (2, .ref (w 0)), (3, .ref (u 52001)), (4, .int (nI (6 * n)))] → some (vl, zc1, zm1) = some S1 → W p l e room_1 s m args below meth c H1 locs1 (cells + 2) (slots + 12) Q (F0 m 2616 ls1 [])) : W p l e room_1 s m args below meth c H locs cells slots Q (F0 m 1491 ls []) := by
  have hbA : ¬ lx_A s b := Nat.not_le.mpr hbl
  generalize e1 : xs (6 * n + 1) = x1 at hq
  generalize e2 : xs (6 * n + 2) = x2 at hq
  generalize e3 : xs (6 * n + 3) = x3 at hq
  generalize e4 : xs (6 * n + 4) = x4 at hq
  generalize e5 : xs (6 * n + 5) = x5 at hq
  unfold lst_summand at hq
  refine lv_aload_n hx hb dz_1491 rfl (lv_at hl 1 rfl) ?_
  refine lv_aload_n hx hb dz_1492 rfl (lv_at hl 0 rfl) ?_
  refine lv_iload hx hb dz_1493 (lv_at hl 4 rfl) ?_
  refine lv_iconst (v := 1) hx hb dz_1495 (by decide) ?_
  refine lv_iadd hx hb dz_1496 ?_
  refine ow_topi (y := nI (6 * n + 1)) (nI_add (6 * n) 1) ?_
  refine va_sld hx hb hX hbl hbA hM.2.2.2.2.2 (vp_in_nI (n := 6 * n + 1) (N := L) (by omega) (by omega)) dz_1497 ?_
  refine ow_topi (y := x1) ((congrArg xs (nI_clamp (by omega))).trans e1) ?_
  refine lv_aload_n hx hb dz_1498 rfl (lv_at hl 3 rfl) ?_
  obtain ⟨v2, zc1, hcq, hq⟩ := tw_cl1 hq
  refine lx_wrap hM (vx_runSX (As := [.ref (u 0), .int x1, .ref (u 52001)]) (rest := []) ⟨hx, hb, hml, hown, hts⟩ (kl_L_summand l D q vl u hM.2.2.1.1 hG.1 sa K 0 x1 (by unfold cw_X11 ci_X11; exact List.mem_singleton.mpr rfl) zc zc1 v2 hcq) (vx_cwSW 3 hts (lx_gS (lx_all wLL_good rfl) (lx_mem hL1 (hZ _ zq_157)) (hZ _ zq_158) (hZ _ zq_159) (hZ _ zq_3) rfl rfl rfl) rfl rfl rfl (by decide +kernel) ⟨(Nat.le_of_ble_eq_true rfl), (Nat.le_of_ble_eq_true rfl)⟩) (lx_preL hG hM) rfl rfl hl.1 rfl (lv_room (Nat.le_of_ble_eq_true rfl)) dz_1499 ⟨(by show _ ≤ 600002; omega), (by show _ ≤ 7302232; omega)⟩) (fun H locs hM => ?_)
  refine lv_istore (lv' := [(5, .int v2), (0, .ref b), (1, .ref (u 0)), (2, .ref (w 0)), (3, .ref (u 52001)), (4, .int (nI (6 * n)))]) hx hb dz_1502 hl (by decide) rfl (fun ls hl => ?_)
  refine lv_aload_n hx hb dz_1504 rfl (lv_at hl 3 rfl) ?_
  refine lv_aload_n hx hb dz_1505 rfl (lv_at hl 1 rfl) ?_
  refine lv_iload hx hb dz_1506 (lv_at hl 5 rfl) ?_
  refine lv_iconst (v := 1) hx hb dz_1508 (by decide) ?_
  refine lv_iadd hx hb dz_1509 ?_
  refine ow_topi (y := nI (6 * n + 1)) (nI_add (6 * n) 1) ?_
  refine va_sld hx hb hX hbl hbA hM.2.2.2.2.2 (vp_in_nI (n := 6 * n + 1) (N := L) (by omega) (by omega)) dz_1510 ?_
  refine ow_topi (y := x1) ((congrArg xs (nI_clamp (by omega))).trans e1) ?_
  obtain ⟨v4, zm3, hcq, hq⟩ := tw_cl1 hq
  refine lx_refi hM (va_runV (As := [.int x1]) (rest := []) ⟨hx, hb, hml, hown, hts⟩ (km_X13_summand l D q5 w hM.2.2.2.1.1 K x1 zm zm3 v4 hcq) (cwV 1 hts (lx_gV (lx_all wM_good rfl) (lx_mem hM1 (hZ _ zq_160)) (hZ _ zq_161) (hZ _ zq_162) (hZ _ zq_163) (hZ _ zq_8) rfl rfl rfl rfl) rfl rfl rfl cd_X13_summand ⟨(Nat.le_of_ble_eq_true rfl), (Nat.le_of_ble_eq_true rfl)⟩) (lx_preM hG hM) rfl rfl hl.1 rfl (lv_room (Nat.le_of_ble_eq_true rfl)) dz_1511 ⟨(by show _ ≤ 600002; omega), (by show _ ≤ 7302232; omega)⟩) (fun H locs hM => ?_)
  refine lv_istore (lv' := [(6, .int v4), (5, .int v2), (0, .ref b), (1, .ref (u 0)), (2, .ref (w 0)), (3, .ref (u 52001)), (4, .int (nI (6 * n)))]) hx hb dz_1514 hl (by decide) rfl (fun ls hl => ?_)
  refine lv_aload_n hx hb dz_1516 rfl (lv_at hl 4 rfl) ?_
  obtain ⟨v6, zm5, hcq, hq⟩ := tw_cl1 hq
  refine lx_refi hM (va_runV (As := []) (rest := []) ⟨hx, hb, hml, hown, hts⟩ (km_X13_thrown l D q5 w hM.2.2.2.1.1 K zm3 zm5 v6 hcq) (cwV 0 hts (lx_gV (lx_all wM_good rfl) (lx_mem hM1 (hZ _ zq_9)) (hZ _ zq_10) (hZ _ zq_11) (hZ _ zq_12) (hZ _ zq_8) rfl rfl rfl rfl) rfl rfl rfl cd_X13_thrown ⟨(Nat.le_of_ble_eq_true rfl), (Nat.le_of_ble_eq_true rfl)⟩) (lx_preM hG hM) rfl rfl hl.1 rfl (lv_room (Nat.le_of_ble_eq_true rfl)) dz_1517 ⟨(by show _ ≤ 600002; omega), (by show _ ≤ 7302232; omega)⟩) (fun H locs hM => ?_)
  refine lv_iload hx hb dz_1520 (lv_at hl 1 rfl) ?_
  refine lv_icmp_eq (tgt := 1527) hx hb dz_1522 (by decide) (fun hc9 => ?_) (fun hc9 => ?_)
  · have hq := tw_it hq hc9
    refine lv_iload hx hb dz_1527 (lv_at hl 1 rfl) ?_
    refine lv_if_ne (tgt := 1544) hx hb dz_1529 (by decide) (fun hc9 => ?_) (fun hc9 => ?_)
    · have hq := tw_if hq hc9
      refine lv_goto (tgt := 2616) hx hb dz_1544 (by decide) ?_
      exact kk _ _ H locs ls hM (lv_sub hl [2, 3, 4, 5, 6] rfl) hq
    · have hq := tw_it hq hc9
      refine lv_aload_n hx hb dz_1532 rfl (lv_at hl 5 rfl) ?_
      refine lv_iconst (v := 0) hx hb dz_1533 (by decide) ?_
      refine uw_lald (A := lx_A s) (H0 := s.heap) cX_ok hx hb hG.2.1 ⟨hM.1, hM.2.2.2.2.2⟩ cr_out hq dz_1534 (fun v7 hq => ?_)
      refine lv_iload hx hb dz_1535 (lv_at hl 0 rfl) ?_
      refine lv_i2l hx hb dz_1537 rfl ?_
      refine W.lcmp hx hb dz_1538 ?_
      refine lv_if_eq (tgt := 1544) hx hb dz_1539 (by decide) (fun hc9 => ?_) (fun hc9 => ?_)
      · have hq := tw_it hq hc9
        refine lv_goto (tgt := 2616) hx hb dz_1544 (by decide) ?_
        exact kk _ _ H locs ls hM (lv_sub hl [2, 3, 4, 5, 6] rfl) hq
      · have hq := tw_if hq hc9
        refine lv_iconst (v := 0) hx hb dz_1542 (by decide) ?_
        exact cw_no hq
  · have hq := tw_if hq hc9
    refine lv_iconst (v := 0) hx hb dz_1525 (by decide) ?_
    exact cw_no hq
theorem dz_1547 : decode cL_law 1547 = .ok (.aload_n 1, 1) := by decide +kernel
theorem dz_1548 : decode cL_law 1548 = .ok (.aload_n 0, 1) := by decide +kernel
theorem dz_1549 : decode cL_law 1549 = .ok (.iload 4, 2) := by decide +kernel
theorem dz_1551 : decode cL_law 1551 = .ok (.iconst 1, 1) := by decide +kernel
theorem dz_1552 : decode cL_law 1552 = .ok (.iadd, 1) := by decide +kernel
theorem dz_1553 : decode cL_law 1553 = .ok (.iaload, 1) := by decide +kernel
theorem dz_1554 : decode cL_law 1554 = .ok (.aload_n 0, 1) := by decide +kernel
theorem dz_1555 : decode cL_law 1555 = .ok (.iload 4, 2) := by decide +kernel
theorem dz_1557 : decode cL_law 1557 = .ok (.iconst 2, 1) := by decide +kernel
theorem dz_1558 : decode cL_law 1558 = .ok (.iadd, 1) := by decide +kernel
theorem dz_1559 : decode cL_law 1559 = .ok (.iaload, 1) := by decide +kernel
theorem dz_1560 : decode cL_law 1560 = .ok (.aload_n 3, 1) := by decide +kernel
theorem dz_1561 : decode cL_law 1561 = .ok (.invokestatic 214, 3) := by decide +kernel
theorem dz_1564 : decode cL_law 1564 = .ok (.istore 5, 2) := by decide +kernel
theorem dz_1566 : decode cL_law 1566 = .ok (.aload_n 2, 1) := by decide +kernel
theorem dz_1567 : decode cL_law 1567 = .ok (.aload_n 0, 1) := by decide +kernel
theorem dz_1568 : decode cL_law 1568 = .ok (.iload 4, 2) := by decide +kernel
theorem dz_1570 : decode cL_law 1570 = .ok (.iconst 1, 1) := by decide +kernel
theorem dz_1571 : decode cL_law 1571 = .ok (.iadd, 1) := by decide +kernel
theorem dz_1572 : decode cL_law 1572 = .ok (.iaload, 1) := by decide +kernel
theorem dz_1573 : decode cL_law 1573 = .ok (.aload_n 0, 1) := by decide +kernel
theorem dz_1574 : decode cL_law 1574 = .ok (.iload 4, 2) := by decide +kernel
theorem dz_1576 : decode cL_law 1576 = .ok (.iconst 2, 1) := by decide +kernel
theorem dz_1577 : decode cL_law 1577 = .ok (.iadd, 1) := by decide +kernel
theorem dz_1578 : decode cL_law 1578 = .ok (.iaload, 1) := by decide +kernel
theorem dz_1579 : decode cL_law 1579 = .ok (.invokevirtual 216, 3) := by decide +kernel
theorem dz_1582 : decode cL_law 1582 = .ok (.istore 6, 2) := by decide +kernel
theorem dz_1584 : decode cL_law 1584 = .ok (.aload_n 2, 1) := by decide +kernel
theorem dz_1585 : decode cL_law 1585 = .ok (.invokevirtual 137, 3) := by decide +kernel
theorem dz_1588 : decode cL_law 1588 = .ok (.iload 5, 2) := by decide +kernel
theorem dz_1590 : decode cL_law 1590 = .ok (.if_icmp .eq 5, 3) := by decide +kernel
theorem dz_1593 : decode cL_law 1593 = .ok (.iconst 0, 1) := by decide +kernel
theorem dz_1594 : decode cL_law 1594 = .ok (.ireturn, 1) := by decide +kernel
theorem dz_1595 : decode cL_law 1595 = .ok (.iload 5, 2) := by decide +kernel
theorem dz_1597 : decode cL_law 1597 = .ok (.ifCond .ne 15, 3) := by decide +kernel
theorem dz_1600 : decode cL_law 1600 = .ok (.aload_n 3, 1) := by decide +kernel
theorem dz_1601 : decode cL_law 1601 = .ok (.iconst 0, 1) := by decide +kernel
theorem dz_1602 : decode cL_law 1602 = .ok (.laload, 1) := by decide +kernel
theorem dz_1603 : decode cL_law 1603 = .ok (.iload 6, 2) := by decide +kernel
theorem dz_1605 : decode cL_law 1605 = .ok (.i2l, 1) := by decide +kernel
theorem dz_1606 : decode cL_law 1606 = .ok (.lcmp, 1) := by decide +kernel
theorem dz_1607 : decode cL_law 1607 = .ok (.ifCond .eq 5, 3) := by decide +kernel
theorem dz_1610 : decode cL_law 1610 = .ok (.iconst 0, 1) := by decide +kernel
theorem dz_1611 : decode cL_law 1611 = .ok (.ireturn, 1) := by decide +kernel
theorem dz_1612 : decode cL_law 1612 = .ok (.goto 1004, 3) := by decide +kernel
def lst_conway (vl : Nat → Nat) (K : Nat) (x1 : Int32) (x2 : Int32) (x3 : Int32) (x4 : Int32) (x5 : Int32) (zc zm : ow_MS) : Option ow_LwS :=
 cs1 (le_L_conway vl K 0 x1 x2 zc) fun v2 zc1 => cs1 (qe_X13_conway K x1 x2 zm) fun v4 zm3 => cs1 (qe_X13_thrown K zm3) fun v6 zm5 => (if v6 = v2 then (if v2 = 0 then crJ (cX vl) zc1 52001 0 fun v7 => (if (lg_cmp v7 v4.toInt64) = 0 then some (vl, zc1, zm5)
 else none)
 else some (vl, zc1, zm5))
 else none)
set_option maxHeartbeats 4000000 in
set_option maxRecDepth 100000 in
theorem lxc_conway {p : Program} {l : Launch} {e : Env} {s : State} {m : MethodId} {args : Array Value} {below : List Frame} {meth : Method} {c : Code} {b L K n : Nat} {xs : Nat → Int32} {D : va_G} {q : Nat → ClassId} {q5 : ow_Q5} {vl u w sa : Nat → Nat} {zc zm : ow_MS} {S1 : ow_LwS} {Ts : List Cond} {Q : State → Prop} {H : Heap} {locs : List Loc} {ls : Array Slot} {cells slots : Nat} (hx : p.tables.exec = Jvm.exec) (hb : c.code = cL_law) (hml : c.maxLocals = 8) (hown : s.vm.findClass RL = some m.cls) (hts : ∀ w ∈ Ts, w.before args s = true) (hX : va_X b L xs s s.heap) (hbl : b < s.heap.size) (hZ : ∀ w ∈ wZ, w ∈ Ts) (hL1 : ∀ w ∈ wLL, w ∈ Ts) (hC1 : ∀ w ∈ wC, w ∈ Ts) (hM1 : ∀ w ∈ wM, w ∈ Ts) (hG : lx_G l s D q q5 sa) (hLn : L ≤ 3072) (hn : 6 * n + 6 ≤ L) (hq : lst_conway vl K (xs (6 * n + 1)) (xs (6 * n + 2)) (xs (6 * n + 3)) (xs (6 * n + 4)) (xs (6 * n + 5)) zc zm = some S1) (hM : lx_M D q q5 s vl u w zc zm H locs) (hl : lv_has ls 8 [(0, .ref b), (1, .ref (u 0)), (2, .ref (w 0)), (3, .ref (u 52001)), (4, .int (nI (6 * n)))]) (hc : cells + 1 ≤ 600002) (hs : slots + 6 ≤ 7302232) (kk : ∀ (zc1 zm1 : ow_MS) (H1 : Heap) (locs1 : List Loc) (ls1 : Array Slot), lx_M D q q5 s vl u w zc1 zm1 H1 locs1 → lv_has ls1 8 [(0, .ref b), (1, .ref (u 0)), (2, .ref (w 0)), (3, .ref (u 52001)), (4, .int (nI (6 * n)))] → some (vl, zc1, zm1) = some S1 → W p l e room_1 s m args below meth c H1 locs1 (cells + 1) (slots + 6) Q (F0 m 2616 ls1 [])) : W p l e room_1 s m args below meth c H locs cells slots Q (F0 m 1547 ls []) := by
  have hbA : ¬ lx_A s b := Nat.not_le.mpr hbl
  generalize e1 : xs (6 * n + 1) = x1 at hq
  generalize e2 : xs (6 * n + 2) = x2 at hq
  generalize e3 : xs (6 * n + 3) = x3 at hq
  generalize e4 : xs (6 * n + 4) = x4 at hq
  generalize e5 : xs (6 * n + 5) = x5 at hq
  unfold lst_conway at hq
  refine lv_aload_n hx hb dz_1547 rfl (lv_at hl 1 rfl) ?_
  refine lv_aload_n hx hb dz_1548 rfl (lv_at hl 0 rfl) ?_
  refine lv_iload hx hb dz_1549 (lv_at hl 4 rfl) ?_
  refine lv_iconst (v := 1) hx hb dz_1551 (by decide) ?_
  refine lv_iadd hx hb dz_1552 ?_
  refine ow_topi (y := nI (6 * n + 1)) (nI_add (6 * n) 1) ?_
  refine va_sld hx hb hX hbl hbA hM.2.2.2.2.2 (vp_in_nI (n := 6 * n + 1) (N := L) (by omega) (by omega)) dz_1553 ?_
  refine ow_topi (y := x1) ((congrArg xs (nI_clamp (by omega))).trans e1) ?_
  refine lv_aload_n hx hb dz_1554 rfl (lv_at hl 0 rfl) ?_
  refine lv_iload hx hb dz_1555 (lv_at hl 4 rfl) ?_
  refine lv_iconst (v := 2) hx hb dz_1557 (by decide) ?_
  refine lv_iadd hx hb dz_1558 ?_
  refine ow_topi (y := nI (6 * n + 2)) (nI_add (6 * n) 2) ?_
  refine va_sld hx hb hX hbl hbA hM.2.2.2.2.2 (vp_in_nI (n := 6 * n + 2) (N := L) (by omega) (by omega)) dz_1559 ?_
  refine ow_topi (y := x2) ((congrArg xs (nI_clamp (by omega))).trans e2) ?_
  refine lv_aload_n hx hb dz_1560 rfl (lv_at hl 3 rfl) ?_
  obtain ⟨v2, zc1, hcq, hq⟩ := tw_cl1 hq
  refine lx_wrap hM (vx_runSX (As := [.ref (u 0), .int x1, .int x2, .ref (u 52001)]) (rest := []) ⟨hx, hb, hml, hown, hts⟩ (kl_L_conway l D q vl u hM.2.2.1.1 hG.1 sa K 0 x1 x2 (by unfold cw_X11 ci_X11; exact List.mem_singleton.mpr rfl) zc zc1 v2 hcq) (vx_cwSW 4 hts (lx_gS (lx_all wLL_good rfl) (lx_mem hL1 (hZ _ zq_164)) (hZ _ zq_165) (hZ _ zq_166) (hZ _ zq_3) rfl rfl rfl) rfl rfl rfl (by decide +kernel) ⟨(Nat.le_of_ble_eq_true rfl), (Nat.le_of_ble_eq_true rfl)⟩) (lx_preL hG hM) rfl rfl hl.1 rfl (lv_room (Nat.le_of_ble_eq_true rfl)) dz_1561 ⟨(by show _ ≤ 600002; omega), (by show _ ≤ 7302232; omega)⟩) (fun H locs hM => ?_)
  refine lv_istore (lv' := [(5, .int v2), (0, .ref b), (1, .ref (u 0)), (2, .ref (w 0)), (3, .ref (u 52001)), (4, .int (nI (6 * n)))]) hx hb dz_1564 hl (by decide) rfl (fun ls hl => ?_)
  refine lv_aload_n hx hb dz_1566 rfl (lv_at hl 3 rfl) ?_
  refine lv_aload_n hx hb dz_1567 rfl (lv_at hl 1 rfl) ?_
  refine lv_iload hx hb dz_1568 (lv_at hl 5 rfl) ?_
  refine lv_iconst (v := 1) hx hb dz_1570 (by decide) ?_
  refine lv_iadd hx hb dz_1571 ?_
  refine ow_topi (y := nI (6 * n + 1)) (nI_add (6 * n) 1) ?_
  refine va_sld hx hb hX hbl hbA hM.2.2.2.2.2 (vp_in_nI (n := 6 * n + 1) (N := L) (by omega) (by omega)) dz_1572 ?_
  refine ow_topi (y := x1) ((congrArg xs (nI_clamp (by omega))).trans e1) ?_
  refine lv_aload_n hx hb dz_1573 rfl (lv_at hl 1 rfl) ?_
  refine lv_iload hx hb dz_1574 (lv_at hl 5 rfl) ?_
  refine lv_iconst (v := 2) hx hb dz_1576 (by decide) ?_
  refine lv_iadd hx hb dz_1577 ?_
  refine ow_topi (y := nI (6 * n + 2)) (nI_add (6 * n) 2) ?_
  refine va_sld hx hb hX hbl hbA hM.2.2.2.2.2 (vp_in_nI (n := 6 * n + 2) (N := L) (by omega) (by omega)) dz_1578 ?_
  refine ow_topi (y := x2) ((congrArg xs (nI_clamp (by omega))).trans e2) ?_
  obtain ⟨v4, zm3, hcq, hq⟩ := tw_cl1 hq
  refine lx_refi hM (va_runV (As := [.int x1, .int x2]) (rest := []) ⟨hx, hb, hml, hown, hts⟩ (km_X13_conway l D q5 w hM.2.2.2.1.1 K x1 x2 zm zm3 v4 hcq) (cwV 2 hts (lx_gV (lx_all wM_good rfl) (lx_mem hM1 (hZ _ zq_167)) (hZ _ zq_168) (hZ _ zq_169) (hZ _ zq_170) (hZ _ zq_8) rfl rfl rfl rfl) rfl rfl rfl cd_X13_conway ⟨(Nat.le_of_ble_eq_true rfl), (Nat.le_of_ble_eq_true rfl)⟩) (lx_preM hG hM) rfl rfl hl.1 rfl (lv_room (Nat.le_of_ble_eq_true rfl)) dz_1579 ⟨(by show _ ≤ 600002; omega), (by show _ ≤ 7302232; omega)⟩) (fun H locs hM => ?_)
  refine lv_istore (lv' := [(6, .int v4), (5, .int v2), (0, .ref b), (1, .ref (u 0)), (2, .ref (w 0)), (3, .ref (u 52001)), (4, .int (nI (6 * n)))]) hx hb dz_1582 hl (by decide) rfl (fun ls hl => ?_)
  refine lv_aload_n hx hb dz_1584 rfl (lv_at hl 4 rfl) ?_
  obtain ⟨v6, zm5, hcq, hq⟩ := tw_cl1 hq
  refine lx_refi hM (va_runV (As := []) (rest := []) ⟨hx, hb, hml, hown, hts⟩ (km_X13_thrown l D q5 w hM.2.2.2.1.1 K zm3 zm5 v6 hcq) (cwV 0 hts (lx_gV (lx_all wM_good rfl) (lx_mem hM1 (hZ _ zq_9)) (hZ _ zq_10) (hZ _ zq_11) (hZ _ zq_12) (hZ _ zq_8) rfl rfl rfl rfl) rfl rfl rfl cd_X13_thrown ⟨(Nat.le_of_ble_eq_true rfl), (Nat.le_of_ble_eq_true rfl)⟩) (lx_preM hG hM) rfl rfl hl.1 rfl (lv_room (Nat.le_of_ble_eq_true rfl)) dz_1585 ⟨(by show _ ≤ 600002; omega), (by show _ ≤ 7302232; omega)⟩) (fun H locs hM => ?_)
  refine lv_iload hx hb dz_1588 (lv_at hl 1 rfl) ?_
  refine lv_icmp_eq (tgt := 1595) hx hb dz_1590 (by decide) (fun hc9 => ?_) (fun hc9 => ?_)
  · have hq := tw_it hq hc9
    refine lv_iload hx hb dz_1595 (lv_at hl 1 rfl) ?_
    refine lv_if_ne (tgt := 1612) hx hb dz_1597 (by decide) (fun hc9 => ?_) (fun hc9 => ?_)
    · have hq := tw_if hq hc9
      refine lv_goto (tgt := 2616) hx hb dz_1612 (by decide) ?_
      exact kk _ _ H locs ls hM (lv_sub hl [2, 3, 4, 5, 6] rfl) hq
    · have hq := tw_it hq hc9
      refine lv_aload_n hx hb dz_1600 rfl (lv_at hl 5 rfl) ?_
      refine lv_iconst (v := 0) hx hb dz_1601 (by decide) ?_
      refine uw_lald (A := lx_A s) (H0 := s.heap) cX_ok hx hb hG.2.1 ⟨hM.1, hM.2.2.2.2.2⟩ cr_out hq dz_1602 (fun v7 hq => ?_)
      refine lv_iload hx hb dz_1603 (lv_at hl 0 rfl) ?_
      refine lv_i2l hx hb dz_1605 rfl ?_
      refine W.lcmp hx hb dz_1606 ?_
      refine lv_if_eq (tgt := 1612) hx hb dz_1607 (by decide) (fun hc9 => ?_) (fun hc9 => ?_)
      · have hq := tw_it hq hc9
        refine lv_goto (tgt := 2616) hx hb dz_1612 (by decide) ?_
        exact kk _ _ H locs ls hM (lv_sub hl [2, 3, 4, 5, 6] rfl) hq
      · have hq := tw_if hq hc9
        refine lv_iconst (v := 0) hx hb dz_1610 (by decide) ?_
        exact cw_no hq
  · have hq := tw_if hq hc9
    refine lv_iconst (v := 0) hx hb dz_1593 (by decide) ?_
    exact cw_no hq
theorem dz_1615 : decode cL_law 1615 = .ok (.aload_n 1, 1) := by decide +kernel
theorem dz_1616 : decode cL_law 1616 = .ok (.aload_n 0, 1) := by decide +kernel
theorem dz_1617 : decode cL_law 1617 = .ok (.iload 4, 2) := by decide +kernel
theorem dz_1619 : decode cL_law 1619 = .ok (.iconst 1, 1) := by decide +kernel
theorem dz_1620 : decode cL_law 1620 = .ok (.iadd, 1) := by decide +kernel
theorem dz_1621 : decode cL_law 1621 = .ok (.iaload, 1) := by decide +kernel
theorem dz_1622 : decode cL_law 1622 = .ok (.aload_n 0, 1) := by decide +kernel
theorem dz_1623 : decode cL_law 1623 = .ok (.iload 4, 2) := by decide +kernel
theorem dz_1625 : decode cL_law 1625 = .ok (.iconst 2, 1) := by decide +kernel
theorem dz_1626 : decode cL_law 1626 = .ok (.iadd, 1) := by decide +kernel
theorem dz_1627 : decode cL_law 1627 = .ok (.iaload, 1) := by decide +kernel
theorem dz_1628 : decode cL_law 1628 = .ok (.aload_n 3, 1) := by decide +kernel
theorem dz_1629 : decode cL_law 1629 = .ok (.invokestatic 217, 3) := by decide +kernel
theorem dz_1632 : decode cL_law 1632 = .ok (.istore 5, 2) := by decide +kernel
theorem dz_1634 : decode cL_law 1634 = .ok (.aload_n 2, 1) := by decide +kernel
theorem dz_1635 : decode cL_law 1635 = .ok (.aload_n 0, 1) := by decide +kernel
theorem dz_1636 : decode cL_law 1636 = .ok (.iload 4, 2) := by decide +kernel
theorem dz_1638 : decode cL_law 1638 = .ok (.iconst 1, 1) := by decide +kernel
theorem dz_1639 : decode cL_law 1639 = .ok (.iadd, 1) := by decide +kernel
theorem dz_1640 : decode cL_law 1640 = .ok (.iaload, 1) := by decide +kernel
theorem dz_1641 : decode cL_law 1641 = .ok (.aload_n 0, 1) := by decide +kernel
theorem dz_1642 : decode cL_law 1642 = .ok (.iload 4, 2) := by decide +kernel
theorem dz_1644 : decode cL_law 1644 = .ok (.iconst 2, 1) := by decide +kernel
theorem dz_1645 : decode cL_law 1645 = .ok (.iadd, 1) := by decide +kernel
theorem dz_1646 : decode cL_law 1646 = .ok (.iaload, 1) := by decide +kernel
theorem dz_1647 : decode cL_law 1647 = .ok (.invokevirtual 219, 3) := by decide +kernel
theorem dz_1650 : decode cL_law 1650 = .ok (.istore 6, 2) := by decide +kernel
theorem dz_1652 : decode cL_law 1652 = .ok (.aload_n 2, 1) := by decide +kernel
theorem dz_1653 : decode cL_law 1653 = .ok (.invokevirtual 137, 3) := by decide +kernel
theorem dz_1656 : decode cL_law 1656 = .ok (.iload 5, 2) := by decide +kernel
theorem dz_1658 : decode cL_law 1658 = .ok (.if_icmp .eq 5, 3) := by decide +kernel
theorem dz_1661 : decode cL_law 1661 = .ok (.iconst 0, 1) := by decide +kernel
theorem dz_1662 : decode cL_law 1662 = .ok (.ireturn, 1) := by decide +kernel
theorem dz_1663 : decode cL_law 1663 = .ok (.iload 5, 2) := by decide +kernel
theorem dz_1665 : decode cL_law 1665 = .ok (.ifCond .ne 15, 3) := by decide +kernel
theorem dz_1668 : decode cL_law 1668 = .ok (.aload_n 3, 1) := by decide +kernel
theorem dz_1669 : decode cL_law 1669 = .ok (.iconst 0, 1) := by decide +kernel
theorem dz_1670 : decode cL_law 1670 = .ok (.laload, 1) := by decide +kernel
theorem dz_1671 : decode cL_law 1671 = .ok (.iload 6, 2) := by decide +kernel
theorem dz_1673 : decode cL_law 1673 = .ok (.i2l, 1) := by decide +kernel
theorem dz_1674 : decode cL_law 1674 = .ok (.lcmp, 1) := by decide +kernel
theorem dz_1675 : decode cL_law 1675 = .ok (.ifCond .eq 5, 3) := by decide +kernel
theorem dz_1678 : decode cL_law 1678 = .ok (.iconst 0, 1) := by decide +kernel
theorem dz_1679 : decode cL_law 1679 = .ok (.ireturn, 1) := by decide +kernel
theorem dz_1680 : decode cL_law 1680 = .ok (.goto 936, 3) := by decide +kernel
def lst_jones (vl : Nat → Nat) (K : Nat) (x1 : Int32) (x2 : Int32) (x3 : Int32) (x4 : Int32) (x5 : Int32) (zc zm : ow_MS) : Option ow_LwS :=
 cs1 (le_L_jones vl K 0 x1 x2 zc) fun v2 zc1 => cs1 (qe_X13_jones K x1 x2 zm) fun v4 zm3 => cs1 (qe_X13_thrown K zm3) fun v6 zm5 => (if v6 = v2 then (if v2 = 0 then crJ (cX vl) zc1 52001 0 fun v7 => (if (lg_cmp v7 v4.toInt64) = 0 then some (vl, zc1, zm5)
 else none)
 else some (vl, zc1, zm5))
 else none)
set_option maxHeartbeats 4000000 in
set_option maxRecDepth 100000 in
theorem lxc_jones {p : Program} {l : Launch} {e : Env} {s : State} {m : MethodId} {args : Array Value} {below : List Frame} {meth : Method} {c : Code} {b L K n : Nat} {xs : Nat → Int32} {D : va_G} {q : Nat → ClassId} {q5 : ow_Q5} {vl u w sa : Nat → Nat} {zc zm : ow_MS} {S1 : ow_LwS} {Ts : List Cond} {Q : State → Prop} {H : Heap} {locs : List Loc} {ls : Array Slot} {cells slots : Nat} (hx : p.tables.exec = Jvm.exec) (hb : c.code = cL_law) (hml : c.maxLocals = 8) (hown : s.vm.findClass RL = some m.cls) (hts : ∀ w ∈ Ts, w.before args s = true) (hX : va_X b L xs s s.heap) (hbl : b < s.heap.size) (hZ : ∀ w ∈ wZ, w ∈ Ts) (hL1 : ∀ w ∈ wLL, w ∈ Ts) (hC1 : ∀ w ∈ wC, w ∈ Ts) (hM1 : ∀ w ∈ wM, w ∈ Ts) (hG : lx_G l s D q q5 sa) (hLn : L ≤ 3072) (hn : 6 * n + 6 ≤ L) (hq : lst_jones vl K (xs (6 * n + 1)) (xs (6 * n + 2)) (xs (6 * n + 3)) (xs (6 * n + 4)) (xs (6 * n + 5)) zc zm = some S1) (hM : lx_M D q q5 s vl u w zc zm H locs) (hl : lv_has ls 8 [(0, .ref b), (1, .ref (u 0)), (2, .ref (w 0)), (3, .ref (u 52001)), (4, .int (nI (6 * n)))]) (hc : cells + 1 ≤ 600002) (hs : slots + 6 ≤ 7302232) (kk : ∀ (zc1 zm1 : ow_MS) (H1 : Heap) (locs1 : List Loc) (ls1 : Array Slot), lx_M D q q5 s vl u w zc1 zm1 H1 locs1 → lv_has ls1 8 [(0, .ref b), (1, .ref (u 0)), (2, .ref (w 0)), (3, .ref (u 52001)), (4, .int (nI (6 * n)))] → some (vl, zc1, zm1) = some S1 → W p l e room_1 s m args below meth c H1 locs1 (cells + 1) (slots + 6) Q (F0 m 2616 ls1 [])) : W p l e room_1 s m args below meth c H locs cells slots Q (F0 m 1615 ls []) := by
  have hbA : ¬ lx_A s b := Nat.not_le.mpr hbl
  generalize e1 : xs (6 * n + 1) = x1 at hq
  generalize e2 : xs (6 * n + 2) = x2 at hq
  generalize e3 : xs (6 * n + 3) = x3 at hq
  generalize e4 : xs (6 * n + 4) = x4 at hq
  generalize e5 : xs (6 * n + 5) = x5 at hq
  unfold lst_jones at hq
  refine lv_aload_n hx hb dz_1615 rfl (lv_at hl 1 rfl) ?_
  refine lv_aload_n hx hb dz_1616 rfl (lv_at hl 0 rfl) ?_
  refine lv_iload hx hb dz_1617 (lv_at hl 4 rfl) ?_
  refine lv_iconst (v := 1) hx hb dz_1619 (by decide) ?_
  refine lv_iadd hx hb dz_1620 ?_
  refine ow_topi (y := nI (6 * n + 1)) (nI_add (6 * n) 1) ?_
  refine va_sld hx hb hX hbl hbA hM.2.2.2.2.2 (vp_in_nI (n := 6 * n + 1) (N := L) (by omega) (by omega)) dz_1621 ?_
  refine ow_topi (y := x1) ((congrArg xs (nI_clamp (by omega))).trans e1) ?_
  refine lv_aload_n hx hb dz_1622 rfl (lv_at hl 0 rfl) ?_
  refine lv_iload hx hb dz_1623 (lv_at hl 4 rfl) ?_
  refine lv_iconst (v := 2) hx hb dz_1625 (by decide) ?_
  refine lv_iadd hx hb dz_1626 ?_
  refine ow_topi (y := nI (6 * n + 2)) (nI_add (6 * n) 2) ?_
  refine va_sld hx hb hX hbl hbA hM.2.2.2.2.2 (vp_in_nI (n := 6 * n + 2) (N := L) (by omega) (by omega)) dz_1627 ?_
  refine ow_topi (y := x2) ((congrArg xs (nI_clamp (by omega))).trans e2) ?_
  refine lv_aload_n hx hb dz_1628 rfl (lv_at hl 3 rfl) ?_
  obtain ⟨v2, zc1, hcq, hq⟩ := tw_cl1 hq
  refine lx_wrap hM (vx_runSX (As := [.ref (u 0), .int x1, .int x2, .ref (u 52001)]) (rest := []) ⟨hx, hb, hml, hown, hts⟩ (kl_L_jones l D q vl u hM.2.2.1.1 hG.1 sa K 0 x1 x2 (by unfold cw_X11 ci_X11; exact List.mem_singleton.mpr rfl) zc zc1 v2 hcq) (vx_cwSW 4 hts (lx_gS (lx_all wLL_good rfl) (lx_mem hL1 (hZ _ zq_171)) (hZ _ zq_172) (hZ _ zq_173) (hZ _ zq_3) rfl rfl rfl) rfl rfl rfl (by decide +kernel) ⟨(Nat.le_of_ble_eq_true rfl), (Nat.le_of_ble_eq_true rfl)⟩) (lx_preL hG hM) rfl rfl hl.1 rfl (lv_room (Nat.le_of_ble_eq_true rfl)) dz_1629 ⟨(by show _ ≤ 600002; omega), (by show _ ≤ 7302232; omega)⟩) (fun H locs hM => ?_)
  refine lv_istore (lv' := [(5, .int v2), (0, .ref b), (1, .ref (u 0)), (2, .ref (w 0)), (3, .ref (u 52001)), (4, .int (nI (6 * n)))]) hx hb dz_1632 hl (by decide) rfl (fun ls hl => ?_)
  refine lv_aload_n hx hb dz_1634 rfl (lv_at hl 3 rfl) ?_
  refine lv_aload_n hx hb dz_1635 rfl (lv_at hl 1 rfl) ?_
  refine lv_iload hx hb dz_1636 (lv_at hl 5 rfl) ?_
  refine lv_iconst (v := 1) hx hb dz_1638 (by decide) ?_
  refine lv_iadd hx hb dz_1639 ?_
  refine ow_topi (y := nI (6 * n + 1)) (nI_add (6 * n) 1) ?_
  refine va_sld hx hb hX hbl hbA hM.2.2.2.2.2 (vp_in_nI (n := 6 * n + 1) (N := L) (by omega) (by omega)) dz_1640 ?_
  refine ow_topi (y := x1) ((congrArg xs (nI_clamp (by omega))).trans e1) ?_
  refine lv_aload_n hx hb dz_1641 rfl (lv_at hl 1 rfl) ?_
  refine lv_iload hx hb dz_1642 (lv_at hl 5 rfl) ?_
  refine lv_iconst (v := 2) hx hb dz_1644 (by decide) ?_
  refine lv_iadd hx hb dz_1645 ?_
  refine ow_topi (y := nI (6 * n + 2)) (nI_add (6 * n) 2) ?_
  refine va_sld hx hb hX hbl hbA hM.2.2.2.2.2 (vp_in_nI (n := 6 * n + 2) (N := L) (by omega) (by omega)) dz_1646 ?_
  refine ow_topi (y := x2) ((congrArg xs (nI_clamp (by omega))).trans e2) ?_
  obtain ⟨v4, zm3, hcq, hq⟩ := tw_cl1 hq
  refine lx_refi hM (va_runV (As := [.int x1, .int x2]) (rest := []) ⟨hx, hb, hml, hown, hts⟩ (km_X13_jones l D q5 w hM.2.2.2.1.1 K x1 x2 zm zm3 v4 hcq) (cwV 2 hts (lx_gV (lx_all wM_good rfl) (lx_mem hM1 (hZ _ zq_174)) (hZ _ zq_175) (hZ _ zq_176) (hZ _ zq_177) (hZ _ zq_8) rfl rfl rfl rfl) rfl rfl rfl cd_X13_jones ⟨(Nat.le_of_ble_eq_true rfl), (Nat.le_of_ble_eq_true rfl)⟩) (lx_preM hG hM) rfl rfl hl.1 rfl (lv_room (Nat.le_of_ble_eq_true rfl)) dz_1647 ⟨(by show _ ≤ 600002; omega), (by show _ ≤ 7302232; omega)⟩) (fun H locs hM => ?_)
  refine lv_istore (lv' := [(6, .int v4), (5, .int v2), (0, .ref b), (1, .ref (u 0)), (2, .ref (w 0)), (3, .ref (u 52001)), (4, .int (nI (6 * n)))]) hx hb dz_1650 hl (by decide) rfl (fun ls hl => ?_)
  refine lv_aload_n hx hb dz_1652 rfl (lv_at hl 4 rfl) ?_
  obtain ⟨v6, zm5, hcq, hq⟩ := tw_cl1 hq
  refine lx_refi hM (va_runV (As := []) (rest := []) ⟨hx, hb, hml, hown, hts⟩ (km_X13_thrown l D q5 w hM.2.2.2.1.1 K zm3 zm5 v6 hcq) (cwV 0 hts (lx_gV (lx_all wM_good rfl) (lx_mem hM1 (hZ _ zq_9)) (hZ _ zq_10) (hZ _ zq_11) (hZ _ zq_12) (hZ _ zq_8) rfl rfl rfl rfl) rfl rfl rfl cd_X13_thrown ⟨(Nat.le_of_ble_eq_true rfl), (Nat.le_of_ble_eq_true rfl)⟩) (lx_preM hG hM) rfl rfl hl.1 rfl (lv_room (Nat.le_of_ble_eq_true rfl)) dz_1653 ⟨(by show _ ≤ 600002; omega), (by show _ ≤ 7302232; omega)⟩) (fun H locs hM => ?_)
  refine lv_iload hx hb dz_1656 (lv_at hl 1 rfl) ?_
  refine lv_icmp_eq (tgt := 1663) hx hb dz_1658 (by decide) (fun hc9 => ?_) (fun hc9 => ?_)
  · have hq := tw_it hq hc9
    refine lv_iload hx hb dz_1663 (lv_at hl 1 rfl) ?_
    refine lv_if_ne (tgt := 1680) hx hb dz_1665 (by decide) (fun hc9 => ?_) (fun hc9 => ?_)
    · have hq := tw_if hq hc9
      refine lv_goto (tgt := 2616) hx hb dz_1680 (by decide) ?_
      exact kk _ _ H locs ls hM (lv_sub hl [2, 3, 4, 5, 6] rfl) hq
    · have hq := tw_it hq hc9
      refine lv_aload_n hx hb dz_1668 rfl (lv_at hl 5 rfl) ?_
      refine lv_iconst (v := 0) hx hb dz_1669 (by decide) ?_
      refine uw_lald (A := lx_A s) (H0 := s.heap) cX_ok hx hb hG.2.1 ⟨hM.1, hM.2.2.2.2.2⟩ cr_out hq dz_1670 (fun v7 hq => ?_)
      refine lv_iload hx hb dz_1671 (lv_at hl 0 rfl) ?_
      refine lv_i2l hx hb dz_1673 rfl ?_
      refine W.lcmp hx hb dz_1674 ?_
      refine lv_if_eq (tgt := 1680) hx hb dz_1675 (by decide) (fun hc9 => ?_) (fun hc9 => ?_)
      · have hq := tw_it hq hc9
        refine lv_goto (tgt := 2616) hx hb dz_1680 (by decide) ?_
        exact kk _ _ H locs ls hM (lv_sub hl [2, 3, 4, 5, 6] rfl) hq
      · have hq := tw_if hq hc9
        refine lv_iconst (v := 0) hx hb dz_1678 (by decide) ?_
        exact cw_no hq
  · have hq := tw_if hq hc9
    refine lv_iconst (v := 0) hx hb dz_1661 (by decide) ?_
    exact cw_no hq
theorem dz_1683 : decode cL_law 1683 = .ok (.aload_n 1, 1) := by decide +kernel
theorem dz_1684 : decode cL_law 1684 = .ok (.aload_n 0, 1) := by decide +kernel
theorem dz_1685 : decode cL_law 1685 = .ok (.iload 4, 2) := by decide +kernel
theorem dz_1687 : decode cL_law 1687 = .ok (.iconst 1, 1) := by decide +kernel
theorem dz_1688 : decode cL_law 1688 = .ok (.iadd, 1) := by decide +kernel
theorem dz_1689 : decode cL_law 1689 = .ok (.iaload, 1) := by decide +kernel
theorem dz_1690 : decode cL_law 1690 = .ok (.aload_n 3, 1) := by decide +kernel
theorem dz_1691 : decode cL_law 1691 = .ok (.invokestatic 220, 3) := by decide +kernel
theorem dz_1694 : decode cL_law 1694 = .ok (.istore 5, 2) := by decide +kernel
theorem dz_1696 : decode cL_law 1696 = .ok (.aload_n 2, 1) := by decide +kernel
theorem dz_1697 : decode cL_law 1697 = .ok (.aload_n 0, 1) := by decide +kernel
theorem dz_1698 : decode cL_law 1698 = .ok (.iload 4, 2) := by decide +kernel
theorem dz_1700 : decode cL_law 1700 = .ok (.iconst 1, 1) := by decide +kernel
theorem dz_1701 : decode cL_law 1701 = .ok (.iadd, 1) := by decide +kernel
theorem dz_1702 : decode cL_law 1702 = .ok (.iaload, 1) := by decide +kernel
theorem dz_1703 : decode cL_law 1703 = .ok (.invokevirtual 222, 3) := by decide +kernel
theorem dz_1706 : decode cL_law 1706 = .ok (.istore 6, 2) := by decide +kernel
theorem dz_1708 : decode cL_law 1708 = .ok (.aload_n 2, 1) := by decide +kernel
theorem dz_1709 : decode cL_law 1709 = .ok (.invokevirtual 137, 3) := by decide +kernel
theorem dz_1712 : decode cL_law 1712 = .ok (.iload 5, 2) := by decide +kernel
theorem dz_1714 : decode cL_law 1714 = .ok (.if_icmp .eq 5, 3) := by decide +kernel
theorem dz_1717 : decode cL_law 1717 = .ok (.iconst 0, 1) := by decide +kernel
theorem dz_1718 : decode cL_law 1718 = .ok (.ireturn, 1) := by decide +kernel
theorem dz_1719 : decode cL_law 1719 = .ok (.iload 5, 2) := by decide +kernel
theorem dz_1721 : decode cL_law 1721 = .ok (.ifCond .ne 15, 3) := by decide +kernel
theorem dz_1724 : decode cL_law 1724 = .ok (.aload_n 3, 1) := by decide +kernel
theorem dz_1725 : decode cL_law 1725 = .ok (.iconst 0, 1) := by decide +kernel
theorem dz_1726 : decode cL_law 1726 = .ok (.laload, 1) := by decide +kernel
theorem dz_1727 : decode cL_law 1727 = .ok (.iload 6, 2) := by decide +kernel
theorem dz_1729 : decode cL_law 1729 = .ok (.i2l, 1) := by decide +kernel
theorem dz_1730 : decode cL_law 1730 = .ok (.lcmp, 1) := by decide +kernel
theorem dz_1731 : decode cL_law 1731 = .ok (.ifCond .eq 5, 3) := by decide +kernel
theorem dz_1734 : decode cL_law 1734 = .ok (.iconst 0, 1) := by decide +kernel
theorem dz_1735 : decode cL_law 1735 = .ok (.ireturn, 1) := by decide +kernel
theorem dz_1736 : decode cL_law 1736 = .ok (.goto 880, 3) := by decide +kernel
def lst_signature (vl : Nat → Nat) (K : Nat) (x1 : Int32) (x2 : Int32) (x3 : Int32) (x4 : Int32) (x5 : Int32) (zc zm : ow_MS) : Option ow_LwS :=
 cs1 (le_L_signature vl K 0 x1 zc) fun v2 zc1 => cs1 (qe_X13_signature K x1 zm) fun v4 zm3 => cs1 (qe_X13_thrown K zm3) fun v6 zm5 => (if v6 = v2 then (if v2 = 0 then crJ (cX vl) zc1 52001 0 fun v7 => (if (lg_cmp v7 v4.toInt64) = 0 then some (vl, zc1, zm5)
 else none)
 else some (vl, zc1, zm5))
 else none)
set_option maxHeartbeats 4000000 in
set_option maxRecDepth 100000 in
theorem lxc_signature {p : Program} {l : Launch} {e : Env} {s : State} {m : MethodId} {args : Array Value} {below : List Frame} {meth : Method} {c : Code} {b L K n : Nat} {xs : Nat → Int32} {D : va_G} {q : Nat → ClassId} {q5 : ow_Q5} {vl u w sa : Nat → Nat} {zc zm : ow_MS} {S1 : ow_LwS} {Ts : List Cond} {Q : State → Prop} {H : Heap} {locs : List Loc} {ls : Array Slot} {cells slots : Nat} (hx : p.tables.exec = Jvm.exec) (hb : c.code = cL_law) (hml : c.maxLocals = 8) (hown : s.vm.findClass RL = some m.cls) (hts : ∀ w ∈ Ts, w.before args s = true) (hX : va_X b L xs s s.heap) (hbl : b < s.heap.size) (hZ : ∀ w ∈ wZ, w ∈ Ts) (hL1 : ∀ w ∈ wLL, w ∈ Ts) (hC1 : ∀ w ∈ wC, w ∈ Ts) (hM1 : ∀ w ∈ wM, w ∈ Ts) (hG : lx_G l s D q q5 sa) (hLn : L ≤ 3072) (hn : 6 * n + 6 ≤ L) (hq : lst_signature vl K (xs (6 * n + 1)) (xs (6 * n + 2)) (xs (6 * n + 3)) (xs (6 * n + 4)) (xs (6 * n + 5)) zc zm = some S1) (hM : lx_M D q q5 s vl u w zc zm H locs) (hl : lv_has ls 8 [(0, .ref b), (1, .ref (u 0)), (2, .ref (w 0)), (3, .ref (u 52001)), (4, .int (nI (6 * n)))]) (hc : cells + 1 ≤ 600002) (hs : slots + 6 ≤ 7302232) (kk : ∀ (zc1 zm1 : ow_MS) (H1 : Heap) (locs1 : List Loc) (ls1 : Array Slot), lx_M D q q5 s vl u w zc1 zm1 H1 locs1 → lv_has ls1 8 [(0, .ref b), (1, .ref (u 0)), (2, .ref (w 0)), (3, .ref (u 52001)), (4, .int (nI (6 * n)))] → some (vl, zc1, zm1) = some S1 → W p l e room_1 s m args below meth c H1 locs1 (cells + 1) (slots + 6) Q (F0 m 2616 ls1 [])) : W p l e room_1 s m args below meth c H locs cells slots Q (F0 m 1683 ls []) := by
  have hbA : ¬ lx_A s b := Nat.not_le.mpr hbl
  generalize e1 : xs (6 * n + 1) = x1 at hq
  generalize e2 : xs (6 * n + 2) = x2 at hq
  generalize e3 : xs (6 * n + 3) = x3 at hq
  generalize e4 : xs (6 * n + 4) = x4 at hq
  generalize e5 : xs (6 * n + 5) = x5 at hq
  unfold lst_signature at hq
  refine lv_aload_n hx hb dz_1683 rfl (lv_at hl 1 rfl) ?_
  refine lv_aload_n hx hb dz_1684 rfl (lv_at hl 0 rfl) ?_
  refine lv_iload hx hb dz_1685 (lv_at hl 4 rfl) ?_
  refine lv_iconst (v := 1) hx hb dz_1687 (by decide) ?_
  refine lv_iadd hx hb dz_1688 ?_
  refine ow_topi (y := nI (6 * n + 1)) (nI_add (6 * n) 1) ?_
  refine va_sld hx hb hX hbl hbA hM.2.2.2.2.2 (vp_in_nI (n := 6 * n + 1) (N := L) (by omega) (by omega)) dz_1689 ?_
  refine ow_topi (y := x1) ((congrArg xs (nI_clamp (by omega))).trans e1) ?_
  refine lv_aload_n hx hb dz_1690 rfl (lv_at hl 3 rfl) ?_
  obtain ⟨v2, zc1, hcq, hq⟩ := tw_cl1 hq
  refine lx_wrap hM (vx_runSX (As := [.ref (u 0), .int x1, .ref (u 52001)]) (rest := []) ⟨hx, hb, hml, hown, hts⟩ (kl_L_signature l D q vl u hM.2.2.1.1 hG.1 sa K 0 x1 (by unfold cw_X11 ci_X11; exact List.mem_singleton.mpr rfl) zc zc1 v2 hcq) (vx_cwSW 3 hts (lx_gS (lx_all wLL_good rfl) (lx_mem hL1 (hZ _ zq_178)) (hZ _ zq_179) (hZ _ zq_180) (hZ _ zq_3) rfl rfl rfl) rfl rfl rfl (by decide +kernel) ⟨(Nat.le_of_ble_eq_true rfl), (Nat.le_of_ble_eq_true rfl)⟩) (lx_preL hG hM) rfl rfl hl.1 rfl (lv_room (Nat.le_of_ble_eq_true rfl)) dz_1691 ⟨(by show _ ≤ 600002; omega), (by show _ ≤ 7302232; omega)⟩) (fun H locs hM => ?_)
  refine lv_istore (lv' := [(5, .int v2), (0, .ref b), (1, .ref (u 0)), (2, .ref (w 0)), (3, .ref (u 52001)), (4, .int (nI (6 * n)))]) hx hb dz_1694 hl (by decide) rfl (fun ls hl => ?_)
  refine lv_aload_n hx hb dz_1696 rfl (lv_at hl 3 rfl) ?_
  refine lv_aload_n hx hb dz_1697 rfl (lv_at hl 1 rfl) ?_
  refine lv_iload hx hb dz_1698 (lv_at hl 5 rfl) ?_
  refine lv_iconst (v := 1) hx hb dz_1700 (by decide) ?_
  refine lv_iadd hx hb dz_1701 ?_
  refine ow_topi (y := nI (6 * n + 1)) (nI_add (6 * n) 1) ?_
  refine va_sld hx hb hX hbl hbA hM.2.2.2.2.2 (vp_in_nI (n := 6 * n + 1) (N := L) (by omega) (by omega)) dz_1702 ?_
  refine ow_topi (y := x1) ((congrArg xs (nI_clamp (by omega))).trans e1) ?_
  obtain ⟨v4, zm3, hcq, hq⟩ := tw_cl1 hq
  refine lx_refi hM (va_runV (As := [.int x1]) (rest := []) ⟨hx, hb, hml, hown, hts⟩ (km_X13_signature l D q5 w hM.2.2.2.1.1 K x1 zm zm3 v4 hcq) (cwV 1 hts (lx_gV (lx_all wM_good rfl) (lx_mem hM1 (hZ _ zq_181)) (hZ _ zq_182) (hZ _ zq_183) (hZ _ zq_184) (hZ _ zq_8) rfl rfl rfl rfl) rfl rfl rfl cd_X13_signature ⟨(Nat.le_of_ble_eq_true rfl), (Nat.le_of_ble_eq_true rfl)⟩) (lx_preM hG hM) rfl rfl hl.1 rfl (lv_room (Nat.le_of_ble_eq_true rfl)) dz_1703 ⟨(by show _ ≤ 600002; omega), (by show _ ≤ 7302232; omega)⟩) (fun H locs hM => ?_)
  refine lv_istore (lv' := [(6, .int v4), (5, .int v2), (0, .ref b), (1, .ref (u 0)), (2, .ref (w 0)), (3, .ref (u 52001)), (4, .int (nI (6 * n)))]) hx hb dz_1706 hl (by decide) rfl (fun ls hl => ?_)
  refine lv_aload_n hx hb dz_1708 rfl (lv_at hl 4 rfl) ?_
  obtain ⟨v6, zm5, hcq, hq⟩ := tw_cl1 hq
  refine lx_refi hM (va_runV (As := []) (rest := []) ⟨hx, hb, hml, hown, hts⟩ (km_X13_thrown l D q5 w hM.2.2.2.1.1 K zm3 zm5 v6 hcq) (cwV 0 hts (lx_gV (lx_all wM_good rfl) (lx_mem hM1 (hZ _ zq_9)) (hZ _ zq_10) (hZ _ zq_11) (hZ _ zq_12) (hZ _ zq_8) rfl rfl rfl rfl) rfl rfl rfl cd_X13_thrown ⟨(Nat.le_of_ble_eq_true rfl), (Nat.le_of_ble_eq_true rfl)⟩) (lx_preM hG hM) rfl rfl hl.1 rfl (lv_room (Nat.le_of_ble_eq_true rfl)) dz_1709 ⟨(by show _ ≤ 600002; omega), (by show _ ≤ 7302232; omega)⟩) (fun H locs hM => ?_)
  refine lv_iload hx hb dz_1712 (lv_at hl 1 rfl) ?_
  refine lv_icmp_eq (tgt := 1719) hx hb dz_1714 (by decide) (fun hc9 => ?_) (fun hc9 => ?_)
  · have hq := tw_it hq hc9
    refine lv_iload hx hb dz_1719 (lv_at hl 1 rfl) ?_
    refine lv_if_ne (tgt := 1736) hx hb dz_1721 (by decide) (fun hc9 => ?_) (fun hc9 => ?_)
    · have hq := tw_if hq hc9
      refine lv_goto (tgt := 2616) hx hb dz_1736 (by decide) ?_
      exact kk _ _ H locs ls hM (lv_sub hl [2, 3, 4, 5, 6] rfl) hq
    · have hq := tw_it hq hc9
      refine lv_aload_n hx hb dz_1724 rfl (lv_at hl 5 rfl) ?_
      refine lv_iconst (v := 0) hx hb dz_1725 (by decide) ?_
      refine uw_lald (A := lx_A s) (H0 := s.heap) cX_ok hx hb hG.2.1 ⟨hM.1, hM.2.2.2.2.2⟩ cr_out hq dz_1726 (fun v7 hq => ?_)
      refine lv_iload hx hb dz_1727 (lv_at hl 0 rfl) ?_
      refine lv_i2l hx hb dz_1729 rfl ?_
      refine W.lcmp hx hb dz_1730 ?_
      refine lv_if_eq (tgt := 1736) hx hb dz_1731 (by decide) (fun hc9 => ?_) (fun hc9 => ?_)
      · have hq := tw_it hq hc9
        refine lv_goto (tgt := 2616) hx hb dz_1736 (by decide) ?_
        exact kk _ _ H locs ls hM (lv_sub hl [2, 3, 4, 5, 6] rfl) hq
      · have hq := tw_if hq hc9
        refine lv_iconst (v := 0) hx hb dz_1734 (by decide) ?_
        exact cw_no hq
  · have hq := tw_if hq hc9
    refine lv_iconst (v := 0) hx hb dz_1717 (by decide) ?_
    exact cw_no hq
theorem dz_1739 : decode cL_law 1739 = .ok (.aload_n 1, 1) := by decide +kernel
theorem dz_1740 : decode cL_law 1740 = .ok (.aload_n 0, 1) := by decide +kernel
theorem dz_1741 : decode cL_law 1741 = .ok (.iload 4, 2) := by decide +kernel
theorem dz_1743 : decode cL_law 1743 = .ok (.iconst 1, 1) := by decide +kernel
theorem dz_1744 : decode cL_law 1744 = .ok (.iadd, 1) := by decide +kernel
theorem dz_1745 : decode cL_law 1745 = .ok (.iaload, 1) := by decide +kernel
theorem dz_1746 : decode cL_law 1746 = .ok (.aload_n 0, 1) := by decide +kernel
theorem dz_1747 : decode cL_law 1747 = .ok (.iload 4, 2) := by decide +kernel
theorem dz_1749 : decode cL_law 1749 = .ok (.iconst 2, 1) := by decide +kernel
theorem dz_1750 : decode cL_law 1750 = .ok (.iadd, 1) := by decide +kernel
theorem dz_1751 : decode cL_law 1751 = .ok (.iaload, 1) := by decide +kernel
theorem dz_1752 : decode cL_law 1752 = .ok (.aload_n 3, 1) := by decide +kernel
theorem dz_1753 : decode cL_law 1753 = .ok (.invokestatic 223, 3) := by decide +kernel
theorem dz_1756 : decode cL_law 1756 = .ok (.istore 5, 2) := by decide +kernel
theorem dz_1758 : decode cL_law 1758 = .ok (.aload_n 2, 1) := by decide +kernel
theorem dz_1759 : decode cL_law 1759 = .ok (.aload_n 0, 1) := by decide +kernel
theorem dz_1760 : decode cL_law 1760 = .ok (.iload 4, 2) := by decide +kernel
theorem dz_1762 : decode cL_law 1762 = .ok (.iconst 1, 1) := by decide +kernel
theorem dz_1763 : decode cL_law 1763 = .ok (.iadd, 1) := by decide +kernel
theorem dz_1764 : decode cL_law 1764 = .ok (.iaload, 1) := by decide +kernel
theorem dz_1765 : decode cL_law 1765 = .ok (.aload_n 0, 1) := by decide +kernel
theorem dz_1766 : decode cL_law 1766 = .ok (.iload 4, 2) := by decide +kernel
theorem dz_1768 : decode cL_law 1768 = .ok (.iconst 2, 1) := by decide +kernel
theorem dz_1769 : decode cL_law 1769 = .ok (.iadd, 1) := by decide +kernel
theorem dz_1770 : decode cL_law 1770 = .ok (.iaload, 1) := by decide +kernel
theorem dz_1771 : decode cL_law 1771 = .ok (.invokevirtual 225, 3) := by decide +kernel
theorem dz_1774 : decode cL_law 1774 = .ok (.istore 6, 2) := by decide +kernel
theorem dz_1776 : decode cL_law 1776 = .ok (.aload_n 2, 1) := by decide +kernel
theorem dz_1777 : decode cL_law 1777 = .ok (.invokevirtual 137, 3) := by decide +kernel
theorem dz_1780 : decode cL_law 1780 = .ok (.iload 5, 2) := by decide +kernel
theorem dz_1782 : decode cL_law 1782 = .ok (.if_icmp .eq 5, 3) := by decide +kernel
theorem dz_1785 : decode cL_law 1785 = .ok (.iconst 0, 1) := by decide +kernel
theorem dz_1786 : decode cL_law 1786 = .ok (.ireturn, 1) := by decide +kernel
theorem dz_1787 : decode cL_law 1787 = .ok (.iload 5, 2) := by decide +kernel
theorem dz_1789 : decode cL_law 1789 = .ok (.ifCond .ne 15, 3) := by decide +kernel
theorem dz_1792 : decode cL_law 1792 = .ok (.aload_n 3, 1) := by decide +kernel
theorem dz_1793 : decode cL_law 1793 = .ok (.iconst 0, 1) := by decide +kernel
theorem dz_1794 : decode cL_law 1794 = .ok (.laload, 1) := by decide +kernel
theorem dz_1795 : decode cL_law 1795 = .ok (.iload 6, 2) := by decide +kernel
theorem dz_1797 : decode cL_law 1797 = .ok (.i2l, 1) := by decide +kernel
theorem dz_1798 : decode cL_law 1798 = .ok (.lcmp, 1) := by decide +kernel
theorem dz_1799 : decode cL_law 1799 = .ok (.ifCond .eq 5, 3) := by decide +kernel
theorem dz_1802 : decode cL_law 1802 = .ok (.iconst 0, 1) := by decide +kernel
theorem dz_1803 : decode cL_law 1803 = .ok (.ireturn, 1) := by decide +kernel
theorem dz_1804 : decode cL_law 1804 = .ok (.goto 812, 3) := by decide +kernel
def lst_cover (vl : Nat → Nat) (K : Nat) (x1 : Int32) (x2 : Int32) (x3 : Int32) (x4 : Int32) (x5 : Int32) (zc zm : ow_MS) : Option ow_LwS :=
 cs1 (le_L_cover vl K 0 x1 x2 zc) fun v2 zc1 => cs1 (qe_X13_cover K x1 x2 zm) fun v4 zm3 => cs1 (qe_X13_thrown K zm3) fun v6 zm5 => (if v6 = v2 then (if v2 = 0 then crJ (cX vl) zc1 52001 0 fun v7 => (if (lg_cmp v7 v4.toInt64) = 0 then some (vl, zc1, zm5)
 else none)
 else some (vl, zc1, zm5))
 else none)
set_option maxHeartbeats 4000000 in
set_option maxRecDepth 100000 in
theorem lxc_cover {p : Program} {l : Launch} {e : Env} {s : State} {m : MethodId} {args : Array Value} {below : List Frame} {meth : Method} {c : Code} {b L K n : Nat} {xs : Nat → Int32} {D : va_G} {q : Nat → ClassId} {q5 : ow_Q5} {vl u w sa : Nat → Nat} {zc zm : ow_MS} {S1 : ow_LwS} {Ts : List Cond} {Q : State → Prop} {H : Heap} {locs : List Loc} {ls : Array Slot} {cells slots : Nat} (hx : p.tables.exec = Jvm.exec) (hb : c.code = cL_law) (hml : c.maxLocals = 8) (hown : s.vm.findClass RL = some m.cls) (hts : ∀ w ∈ Ts, w.before args s = true) (hX : va_X b L xs s s.heap) (hbl : b < s.heap.size) (hZ : ∀ w ∈ wZ, w ∈ Ts) (hL1 : ∀ w ∈ wLL, w ∈ Ts) (hC1 : ∀ w ∈ wC, w ∈ Ts) (hM1 : ∀ w ∈ wM, w ∈ Ts) (hG : lx_G l s D q q5 sa) (hLn : L ≤ 3072) (hn : 6 * n + 6 ≤ L) (hq : lst_cover vl K (xs (6 * n + 1)) (xs (6 * n + 2)) (xs (6 * n + 3)) (xs (6 * n + 4)) (xs (6 * n + 5)) zc zm = some S1) (hM : lx_M D q q5 s vl u w zc zm H locs) (hl : lv_has ls 8 [(0, .ref b), (1, .ref (u 0)), (2, .ref (w 0)), (3, .ref (u 52001)), (4, .int (nI (6 * n)))]) (hc : cells + 1 ≤ 600002) (hs : slots + 6 ≤ 7302232) (kk : ∀ (zc1 zm1 : ow_MS) (H1 : Heap) (locs1 : List Loc) (ls1 : Array Slot), lx_M D q q5 s vl u w zc1 zm1 H1 locs1 → lv_has ls1 8 [(0, .ref b), (1, .ref (u 0)), (2, .ref (w 0)), (3, .ref (u 52001)), (4, .int (nI (6 * n)))] → some (vl, zc1, zm1) = some S1 → W p l e room_1 s m args below meth c H1 locs1 (cells + 1) (slots + 6) Q (F0 m 2616 ls1 [])) : W p l e room_1 s m args below meth c H locs cells slots Q (F0 m 1739 ls []) := by
  have hbA : ¬ lx_A s b := Nat.not_le.mpr hbl
  generalize e1 : xs (6 * n + 1) = x1 at hq
  generalize e2 : xs (6 * n + 2) = x2 at hq
  generalize e3 : xs (6 * n + 3) = x3 at hq
  generalize e4 : xs (6 * n + 4) = x4 at hq
  generalize e5 : xs (6 * n + 5) = x5 at hq
  unfold lst_cover at hq
  refine lv_aload_n hx hb dz_1739 rfl (lv_at hl 1 rfl) ?_
  refine lv_aload_n hx hb dz_1740 rfl (lv_at hl 0 rfl) ?_
  refine lv_iload hx hb dz_1741 (lv_at hl 4 rfl) ?_
  refine lv_iconst (v := 1) hx hb dz_1743 (by decide) ?_
  refine lv_iadd hx hb dz_1744 ?_
  refine ow_topi (y := nI (6 * n + 1)) (nI_add (6 * n) 1) ?_
  refine va_sld hx hb hX hbl hbA hM.2.2.2.2.2 (vp_in_nI (n := 6 * n + 1) (N := L) (by omega) (by omega)) dz_1745 ?_
  refine ow_topi (y := x1) ((congrArg xs (nI_clamp (by omega))).trans e1) ?_
  refine lv_aload_n hx hb dz_1746 rfl (lv_at hl 0 rfl) ?_
  refine lv_iload hx hb dz_1747 (lv_at hl 4 rfl) ?_
  refine lv_iconst (v := 2) hx hb dz_1749 (by decide) ?_
  refine lv_iadd hx hb dz_1750 ?_
  refine ow_topi (y := nI (6 * n + 2)) (nI_add (6 * n) 2) ?_
  refine va_sld hx hb hX hbl hbA hM.2.2.2.2.2 (vp_in_nI (n := 6 * n + 2) (N := L) (by omega) (by omega)) dz_1751 ?_
  refine ow_topi (y := x2) ((congrArg xs (nI_clamp (by omega))).trans e2) ?_
  refine lv_aload_n hx hb dz_1752 rfl (lv_at hl 3 rfl) ?_
  obtain ⟨v2, zc1, hcq, hq⟩ := tw_cl1 hq
  refine lx_wrap hM (vx_runSX (As := [.ref (u 0), .int x1, .int x2, .ref (u 52001)]) (rest := []) ⟨hx, hb, hml, hown, hts⟩ (kl_L_cover l D q vl u hM.2.2.1.1 hG.1 sa K 0 x1 x2 (by unfold cw_X11 ci_X11; exact List.mem_singleton.mpr rfl) zc zc1 v2 hcq) (vx_cwSW 4 hts (lx_gS (lx_all wLL_good rfl) (lx_mem hL1 (hZ _ zq_185)) (hZ _ zq_186) (hZ _ zq_187) (hZ _ zq_3) rfl rfl rfl) rfl rfl rfl (by decide +kernel) ⟨(Nat.le_of_ble_eq_true rfl), (Nat.le_of_ble_eq_true rfl)⟩) (lx_preL hG hM) rfl rfl hl.1 rfl (lv_room (Nat.le_of_ble_eq_true rfl)) dz_1753 ⟨(by show _ ≤ 600002; omega), (by show _ ≤ 7302232; omega)⟩) (fun H locs hM => ?_)
  refine lv_istore (lv' := [(5, .int v2), (0, .ref b), (1, .ref (u 0)), (2, .ref (w 0)), (3, .ref (u 52001)), (4, .int (nI (6 * n)))]) hx hb dz_1756 hl (by decide) rfl (fun ls hl => ?_)
  refine lv_aload_n hx hb dz_1758 rfl (lv_at hl 3 rfl) ?_
  refine lv_aload_n hx hb dz_1759 rfl (lv_at hl 1 rfl) ?_
  refine lv_iload hx hb dz_1760 (lv_at hl 5 rfl) ?_
  refine lv_iconst (v := 1) hx hb dz_1762 (by decide) ?_
  refine lv_iadd hx hb dz_1763 ?_
  refine ow_topi (y := nI (6 * n + 1)) (nI_add (6 * n) 1) ?_
  refine va_sld hx hb hX hbl hbA hM.2.2.2.2.2 (vp_in_nI (n := 6 * n + 1) (N := L) (by omega) (by omega)) dz_1764 ?_
  refine ow_topi (y := x1) ((congrArg xs (nI_clamp (by omega))).trans e1) ?_
  refine lv_aload_n hx hb dz_1765 rfl (lv_at hl 1 rfl) ?_
  refine lv_iload hx hb dz_1766 (lv_at hl 5 rfl) ?_
  refine lv_iconst (v := 2) hx hb dz_1768 (by decide) ?_
  refine lv_iadd hx hb dz_1769 ?_
  refine ow_topi (y := nI (6 * n + 2)) (nI_add (6 * n) 2) ?_
  refine va_sld hx hb hX hbl hbA hM.2.2.2.2.2 (vp_in_nI (n := 6 * n + 2) (N := L) (by omega) (by omega)) dz_1770 ?_
  refine ow_topi (y := x2) ((congrArg xs (nI_clamp (by omega))).trans e2) ?_
  obtain ⟨v4, zm3, hcq, hq⟩ := tw_cl1 hq
  refine lx_refi hM (va_runV (As := [.int x1, .int x2]) (rest := []) ⟨hx, hb, hml, hown, hts⟩ (km_X13_cover l D q5 w hM.2.2.2.1.1 K x1 x2 zm zm3 v4 hcq) (cwV 2 hts (lx_gV (lx_all wM_good rfl) (lx_mem hM1 (hZ _ zq_188)) (hZ _ zq_189) (hZ _ zq_190) (hZ _ zq_191) (hZ _ zq_8) rfl rfl rfl rfl) rfl rfl rfl cd_X13_cover ⟨(Nat.le_of_ble_eq_true rfl), (Nat.le_of_ble_eq_true rfl)⟩) (lx_preM hG hM) rfl rfl hl.1 rfl (lv_room (Nat.le_of_ble_eq_true rfl)) dz_1771 ⟨(by show _ ≤ 600002; omega), (by show _ ≤ 7302232; omega)⟩) (fun H locs hM => ?_)
  refine lv_istore (lv' := [(6, .int v4), (5, .int v2), (0, .ref b), (1, .ref (u 0)), (2, .ref (w 0)), (3, .ref (u 52001)), (4, .int (nI (6 * n)))]) hx hb dz_1774 hl (by decide) rfl (fun ls hl => ?_)
  refine lv_aload_n hx hb dz_1776 rfl (lv_at hl 4 rfl) ?_
  obtain ⟨v6, zm5, hcq, hq⟩ := tw_cl1 hq
  refine lx_refi hM (va_runV (As := []) (rest := []) ⟨hx, hb, hml, hown, hts⟩ (km_X13_thrown l D q5 w hM.2.2.2.1.1 K zm3 zm5 v6 hcq) (cwV 0 hts (lx_gV (lx_all wM_good rfl) (lx_mem hM1 (hZ _ zq_9)) (hZ _ zq_10) (hZ _ zq_11) (hZ _ zq_12) (hZ _ zq_8) rfl rfl rfl rfl) rfl rfl rfl cd_X13_thrown ⟨(Nat.le_of_ble_eq_true rfl), (Nat.le_of_ble_eq_true rfl)⟩) (lx_preM hG hM) rfl rfl hl.1 rfl (lv_room (Nat.le_of_ble_eq_true rfl)) dz_1777 ⟨(by show _ ≤ 600002; omega), (by show _ ≤ 7302232; omega)⟩) (fun H locs hM => ?_)
  refine lv_iload hx hb dz_1780 (lv_at hl 1 rfl) ?_
  refine lv_icmp_eq (tgt := 1787) hx hb dz_1782 (by decide) (fun hc9 => ?_) (fun hc9 => ?_)
  · have hq := tw_it hq hc9
    refine lv_iload hx hb dz_1787 (lv_at hl 1 rfl) ?_
    refine lv_if_ne (tgt := 1804) hx hb dz_1789 (by decide) (fun hc9 => ?_) (fun hc9 => ?_)
    · have hq := tw_if hq hc9
      refine lv_goto (tgt := 2616) hx hb dz_1804 (by decide) ?_
      exact kk _ _ H locs ls hM (lv_sub hl [2, 3, 4, 5, 6] rfl) hq
    · have hq := tw_it hq hc9
      refine lv_aload_n hx hb dz_1792 rfl (lv_at hl 5 rfl) ?_
      refine lv_iconst (v := 0) hx hb dz_1793 (by decide) ?_
      refine uw_lald (A := lx_A s) (H0 := s.heap) cX_ok hx hb hG.2.1 ⟨hM.1, hM.2.2.2.2.2⟩ cr_out hq dz_1794 (fun v7 hq => ?_)
      refine lv_iload hx hb dz_1795 (lv_at hl 0 rfl) ?_
      refine lv_i2l hx hb dz_1797 rfl ?_
      refine W.lcmp hx hb dz_1798 ?_
      refine lv_if_eq (tgt := 1804) hx hb dz_1799 (by decide) (fun hc9 => ?_) (fun hc9 => ?_)
      · have hq := tw_it hq hc9
        refine lv_goto (tgt := 2616) hx hb dz_1804 (by decide) ?_
        exact kk _ _ H locs ls hM (lv_sub hl [2, 3, 4, 5, 6] rfl) hq
      · have hq := tw_if hq hc9
        refine lv_iconst (v := 0) hx hb dz_1802 (by decide) ?_
        exact cw_no hq
  · have hq := tw_if hq hc9
    refine lv_iconst (v := 0) hx hb dz_1785 (by decide) ?_
    exact cw_no hq
theorem dz_1807 : decode cL_law 1807 = .ok (.aload_n 1, 1) := by decide +kernel
theorem dz_1808 : decode cL_law 1808 = .ok (.aload_n 0, 1) := by decide +kernel
theorem dz_1809 : decode cL_law 1809 = .ok (.iload 4, 2) := by decide +kernel
theorem dz_1811 : decode cL_law 1811 = .ok (.iconst 1, 1) := by decide +kernel
theorem dz_1812 : decode cL_law 1812 = .ok (.iadd, 1) := by decide +kernel
theorem dz_1813 : decode cL_law 1813 = .ok (.iaload, 1) := by decide +kernel
theorem dz_1814 : decode cL_law 1814 = .ok (.aload_n 0, 1) := by decide +kernel
theorem dz_1815 : decode cL_law 1815 = .ok (.iload 4, 2) := by decide +kernel
theorem dz_1817 : decode cL_law 1817 = .ok (.iconst 2, 1) := by decide +kernel
theorem dz_1818 : decode cL_law 1818 = .ok (.iadd, 1) := by decide +kernel
theorem dz_1819 : decode cL_law 1819 = .ok (.iaload, 1) := by decide +kernel
theorem dz_1820 : decode cL_law 1820 = .ok (.aload_n 3, 1) := by decide +kernel
theorem dz_1821 : decode cL_law 1821 = .ok (.invokestatic 226, 3) := by decide +kernel
theorem dz_1824 : decode cL_law 1824 = .ok (.istore 5, 2) := by decide +kernel
theorem dz_1826 : decode cL_law 1826 = .ok (.aload_n 2, 1) := by decide +kernel
theorem dz_1827 : decode cL_law 1827 = .ok (.aload_n 0, 1) := by decide +kernel
theorem dz_1828 : decode cL_law 1828 = .ok (.iload 4, 2) := by decide +kernel
theorem dz_1830 : decode cL_law 1830 = .ok (.iconst 1, 1) := by decide +kernel
theorem dz_1831 : decode cL_law 1831 = .ok (.iadd, 1) := by decide +kernel
theorem dz_1832 : decode cL_law 1832 = .ok (.iaload, 1) := by decide +kernel
theorem dz_1833 : decode cL_law 1833 = .ok (.aload_n 0, 1) := by decide +kernel
theorem dz_1834 : decode cL_law 1834 = .ok (.iload 4, 2) := by decide +kernel
theorem dz_1836 : decode cL_law 1836 = .ok (.iconst 2, 1) := by decide +kernel
theorem dz_1837 : decode cL_law 1837 = .ok (.iadd, 1) := by decide +kernel
theorem dz_1838 : decode cL_law 1838 = .ok (.iaload, 1) := by decide +kernel
theorem dz_1839 : decode cL_law 1839 = .ok (.invokevirtual 228, 3) := by decide +kernel
theorem dz_1842 : decode cL_law 1842 = .ok (.lstore 6, 2) := by decide +kernel
theorem dz_1844 : decode cL_law 1844 = .ok (.aload_n 2, 1) := by decide +kernel
theorem dz_1845 : decode cL_law 1845 = .ok (.invokevirtual 137, 3) := by decide +kernel
theorem dz_1848 : decode cL_law 1848 = .ok (.iload 5, 2) := by decide +kernel
theorem dz_1850 : decode cL_law 1850 = .ok (.if_icmp .eq 5, 3) := by decide +kernel
theorem dz_1853 : decode cL_law 1853 = .ok (.iconst 0, 1) := by decide +kernel
theorem dz_1854 : decode cL_law 1854 = .ok (.ireturn, 1) := by decide +kernel
theorem dz_1855 : decode cL_law 1855 = .ok (.iload 5, 2) := by decide +kernel
theorem dz_1857 : decode cL_law 1857 = .ok (.ifCond .ne 14, 3) := by decide +kernel
theorem dz_1860 : decode cL_law 1860 = .ok (.aload_n 3, 1) := by decide +kernel
theorem dz_1861 : decode cL_law 1861 = .ok (.iconst 0, 1) := by decide +kernel
theorem dz_1862 : decode cL_law 1862 = .ok (.laload, 1) := by decide +kernel
theorem dz_1863 : decode cL_law 1863 = .ok (.lload 6, 2) := by decide +kernel
theorem dz_1865 : decode cL_law 1865 = .ok (.lcmp, 1) := by decide +kernel
theorem dz_1866 : decode cL_law 1866 = .ok (.ifCond .eq 5, 3) := by decide +kernel
theorem dz_1869 : decode cL_law 1869 = .ok (.iconst 0, 1) := by decide +kernel
theorem dz_1870 : decode cL_law 1870 = .ok (.ireturn, 1) := by decide +kernel
theorem dz_1871 : decode cL_law 1871 = .ok (.goto 745, 3) := by decide +kernel
def lst_colours (vl : Nat → Nat) (K : Nat) (x1 : Int32) (x2 : Int32) (x3 : Int32) (x4 : Int32) (x5 : Int32) (zc zm : ow_MS) : Option ow_LwS :=
 cs1 (le_L_colours vl K 0 x1 x2 zc) fun v2 zc1 => cs1 (qe_X13_colours K x1 x2 zm) fun v4 zm3 => cs1 (qe_X13_thrown K zm3) fun v6 zm5 => (if v6 = v2 then (if v2 = 0 then crJ (cX vl) zc1 52001 0 fun v7 => (if (lg_cmp v7 v4) = 0 then some (vl, zc1, zm5)
 else none)
 else some (vl, zc1, zm5))
 else none)
set_option maxHeartbeats 4000000 in
set_option maxRecDepth 100000 in
theorem lxc_colours {p : Program} {l : Launch} {e : Env} {s : State} {m : MethodId} {args : Array Value} {below : List Frame} {meth : Method} {c : Code} {b L K n : Nat} {xs : Nat → Int32} {D : va_G} {q : Nat → ClassId} {q5 : ow_Q5} {vl u w sa : Nat → Nat} {zc zm : ow_MS} {S1 : ow_LwS} {Ts : List Cond} {Q : State → Prop} {H : Heap} {locs : List Loc} {ls : Array Slot} {cells slots : Nat} (hx : p.tables.exec = Jvm.exec) (hb : c.code = cL_law) (hml : c.maxLocals = 8) (hown : s.vm.findClass RL = some m.cls) (hts : ∀ w ∈ Ts, w.before args s = true) (hX : va_X b L xs s s.heap) (hbl : b < s.heap.size) (hZ : ∀ w ∈ wZ, w ∈ Ts) (hL1 : ∀ w ∈ wLL, w ∈ Ts) (hC1 : ∀ w ∈ wC, w ∈ Ts) (hM1 : ∀ w ∈ wM, w ∈ Ts) (hG : lx_G l s D q q5 sa) (hLn : L ≤ 3072) (hn : 6 * n + 6 ≤ L) (hq : lst_colours vl K (xs (6 * n + 1)) (xs (6 * n + 2)) (xs (6 * n + 3)) (xs (6 * n + 4)) (xs (6 * n + 5)) zc zm = some S1) (hM : lx_M D q q5 s vl u w zc zm H locs) (hl : lv_has ls 8 [(0, .ref b), (1, .ref (u 0)), (2, .ref (w 0)), (3, .ref (u 52001)), (4, .int (nI (6 * n)))]) (hc : cells + 2 ≤ 600002) (hs : slots + 12 ≤ 7302232) (kk : ∀ (zc1 zm1 : ow_MS) (H1 : Heap) (locs1 : List Loc) (ls1 : Array Slot), lx_M D q q5 s vl u w zc1 zm1 H1 locs1 → lv_has ls1 8 [(0, .ref b), (1, .ref (u 0)), (2, .ref (w 0)), (3, .ref (u 52001)), (4, .int (nI (6 * n)))] → some (vl, zc1, zm1) = some S1 → W p l e room_1 s m args below meth c H1 locs1 (cells + 2) (slots + 12) Q (F0 m 2616 ls1 [])) : W p l e room_1 s m args below meth c H locs cells slots Q (F0 m 1807 ls []) := by
  have hbA : ¬ lx_A s b := Nat.not_le.mpr hbl
  generalize e1 : xs (6 * n + 1) = x1 at hq
  generalize e2 : xs (6 * n + 2) = x2 at hq
  generalize e3 : xs (6 * n + 3) = x3 at hq
  generalize e4 : xs (6 * n + 4) = x4 at hq
  generalize e5 : xs (6 * n + 5) = x5 at hq
  unfold lst_colours at hq
  refine lv_aload_n hx hb dz_1807 rfl (lv_at hl 1 rfl) ?_
  refine lv_aload_n hx hb dz_1808 rfl (lv_at hl 0 rfl) ?_
  refine lv_iload hx hb dz_1809 (lv_at hl 4 rfl) ?_
  refine lv_iconst (v := 1) hx hb dz_1811 (by decide) ?_
  refine lv_iadd hx hb dz_1812 ?_
  refine ow_topi (y := nI (6 * n + 1)) (nI_add (6 * n) 1) ?_
  refine va_sld hx hb hX hbl hbA hM.2.2.2.2.2 (vp_in_nI (n := 6 * n + 1) (N := L) (by omega) (by omega)) dz_1813 ?_
  refine ow_topi (y := x1) ((congrArg xs (nI_clamp (by omega))).trans e1) ?_
  refine lv_aload_n hx hb dz_1814 rfl (lv_at hl 0 rfl) ?_
  refine lv_iload hx hb dz_1815 (lv_at hl 4 rfl) ?_
  refine lv_iconst (v := 2) hx hb dz_1817 (by decide) ?_
  refine lv_iadd hx hb dz_1818 ?_
  refine ow_topi (y := nI (6 * n + 2)) (nI_add (6 * n) 2) ?_
  refine va_sld hx hb hX hbl hbA hM.2.2.2.2.2 (vp_in_nI (n := 6 * n + 2) (N := L) (by omega) (by omega)) dz_1819 ?_
  refine ow_topi (y := x2) ((congrArg xs (nI_clamp (by omega))).trans e2) ?_
  refine lv_aload_n hx hb dz_1820 rfl (lv_at hl 3 rfl) ?_
  obtain ⟨v2, zc1, hcq, hq⟩ := tw_cl1 hq
  refine lx_wrap hM (vx_runSX (As := [.ref (u 0), .int x1, .int x2, .ref (u 52001)]) (rest := []) ⟨hx, hb, hml, hown, hts⟩ (kl_L_colours l D q vl u hM.2.2.1.1 hG.1 sa K 0 x1 x2 (by unfold cw_X11 ci_X11; exact List.mem_singleton.mpr rfl) zc zc1 v2 hcq) (vx_cwSW 4 hts (lx_gS (lx_all wLL_good rfl) (lx_mem hL1 (hZ _ zq_192)) (hZ _ zq_193) (hZ _ zq_194) (hZ _ zq_3) rfl rfl rfl) rfl rfl rfl (by decide +kernel) ⟨(Nat.le_of_ble_eq_true rfl), (Nat.le_of_ble_eq_true rfl)⟩) (lx_preL hG hM) rfl rfl hl.1 rfl (lv_room (Nat.le_of_ble_eq_true rfl)) dz_1821 ⟨(by show _ ≤ 600002; omega), (by show _ ≤ 7302232; omega)⟩) (fun H locs hM => ?_)
  refine lv_istore (lv' := [(5, .int v2), (0, .ref b), (1, .ref (u 0)), (2, .ref (w 0)), (3, .ref (u 52001)), (4, .int (nI (6 * n)))]) hx hb dz_1824 hl (by decide) rfl (fun ls hl => ?_)
  refine lv_aload_n hx hb dz_1826 rfl (lv_at hl 3 rfl) ?_
  refine lv_aload_n hx hb dz_1827 rfl (lv_at hl 1 rfl) ?_
  refine lv_iload hx hb dz_1828 (lv_at hl 5 rfl) ?_
  refine lv_iconst (v := 1) hx hb dz_1830 (by decide) ?_
  refine lv_iadd hx hb dz_1831 ?_
  refine ow_topi (y := nI (6 * n + 1)) (nI_add (6 * n) 1) ?_
  refine va_sld hx hb hX hbl hbA hM.2.2.2.2.2 (vp_in_nI (n := 6 * n + 1) (N := L) (by omega) (by omega)) dz_1832 ?_
  refine ow_topi (y := x1) ((congrArg xs (nI_clamp (by omega))).trans e1) ?_
  refine lv_aload_n hx hb dz_1833 rfl (lv_at hl 1 rfl) ?_
  refine lv_iload hx hb dz_1834 (lv_at hl 5 rfl) ?_
  refine lv_iconst (v := 2) hx hb dz_1836 (by decide) ?_
  refine lv_iadd hx hb dz_1837 ?_
  refine ow_topi (y := nI (6 * n + 2)) (nI_add (6 * n) 2) ?_
  refine va_sld hx hb hX hbl hbA hM.2.2.2.2.2 (vp_in_nI (n := 6 * n + 2) (N := L) (by omega) (by omega)) dz_1838 ?_
  refine ow_topi (y := x2) ((congrArg xs (nI_clamp (by omega))).trans e2) ?_
  obtain ⟨v4, zm3, hcq, hq⟩ := tw_cl1 hq
  refine lx_refl hM (va_runV (As := [.int x1, .int x2]) (rest := []) ⟨hx, hb, hml, hown, hts⟩ (km_X13_colours l D q5 w hM.2.2.2.1.1 K x1 x2 zm zm3 v4 hcq) (cwV 2 hts (lx_gV (lx_all wM_good rfl) (lx_mem hM1 (hZ _ zq_195)) (hZ _ zq_196) (hZ _ zq_197) (hZ _ zq_198) (hZ _ zq_8) rfl rfl rfl rfl) rfl rfl rfl cd_X13_colours ⟨(Nat.le_of_ble_eq_true rfl), (Nat.le_of_ble_eq_true rfl)⟩) (lx_preM hG hM) rfl rfl hl.1 rfl (lv_room (Nat.le_of_ble_eq_true rfl)) dz_1839 ⟨(by show _ ≤ 600002; omega), (by show _ ≤ 7302232; omega)⟩) (fun H locs hM => ?_)
  refine lv_lstore (lv' := [(6, .long v4), (5, .int v2), (0, .ref b), (1, .ref (u 0)), (2, .ref (w 0)), (3, .ref (u 52001)), (4, .int (nI (6 * n)))]) hx hb dz_1842 hl (by decide) rfl (fun ls hl => ?_)
  refine lv_aload_n hx hb dz_1844 rfl (lv_at hl 4 rfl) ?_
  obtain ⟨v6, zm5, hcq, hq⟩ := tw_cl1 hq
  refine lx_refi hM (va_runV (As := []) (rest := []) ⟨hx, hb, hml, hown, hts⟩ (km_X13_thrown l D q5 w hM.2.2.2.1.1 K zm3 zm5 v6 hcq) (cwV 0 hts (lx_gV (lx_all wM_good rfl) (lx_mem hM1 (hZ _ zq_9)) (hZ _ zq_10) (hZ _ zq_11) (hZ _ zq_12) (hZ _ zq_8) rfl rfl rfl rfl) rfl rfl rfl cd_X13_thrown ⟨(Nat.le_of_ble_eq_true rfl), (Nat.le_of_ble_eq_true rfl)⟩) (lx_preM hG hM) rfl rfl hl.1 rfl (lv_room (Nat.le_of_ble_eq_true rfl)) dz_1845 ⟨(by show _ ≤ 600002; omega), (by show _ ≤ 7302232; omega)⟩) (fun H locs hM => ?_)
  refine lv_iload hx hb dz_1848 (lv_at hl 1 rfl) ?_
  refine lv_icmp_eq (tgt := 1855) hx hb dz_1850 (by decide) (fun hc9 => ?_) (fun hc9 => ?_)
  · have hq := tw_it hq hc9
    refine lv_iload hx hb dz_1855 (lv_at hl 1 rfl) ?_
    refine lv_if_ne (tgt := 1871) hx hb dz_1857 (by decide) (fun hc9 => ?_) (fun hc9 => ?_)
    · have hq := tw_if hq hc9
      refine lv_goto (tgt := 2616) hx hb dz_1871 (by decide) ?_
      exact kk _ _ H locs ls hM (lv_sub hl [2, 3, 4, 5, 6] rfl) hq
    · have hq := tw_it hq hc9
      refine lv_aload_n hx hb dz_1860 rfl (lv_at hl 5 rfl) ?_
      refine lv_iconst (v := 0) hx hb dz_1861 (by decide) ?_
      refine uw_lald (A := lx_A s) (H0 := s.heap) cX_ok hx hb hG.2.1 ⟨hM.1, hM.2.2.2.2.2⟩ cr_out hq dz_1862 (fun v7 hq => ?_)
      refine lv_lload hx hb dz_1863 (lv_at hl 0 rfl) ?_
      refine W.lcmp hx hb dz_1865 ?_
      refine lv_if_eq (tgt := 1871) hx hb dz_1866 (by decide) (fun hc9 => ?_) (fun hc9 => ?_)
      · have hq := tw_it hq hc9
        refine lv_goto (tgt := 2616) hx hb dz_1871 (by decide) ?_
        exact kk _ _ H locs ls hM (lv_sub hl [2, 3, 4, 5, 6] rfl) hq
      · have hq := tw_if hq hc9
        refine lv_iconst (v := 0) hx hb dz_1869 (by decide) ?_
        exact cw_no hq
  · have hq := tw_if hq hc9
    refine lv_iconst (v := 0) hx hb dz_1853 (by decide) ?_
    exact cw_no hq
theorem dz_1874 : decode cL_law 1874 = .ok (.aload_n 1, 1) := by decide +kernel
theorem dz_1875 : decode cL_law 1875 = .ok (.aload_n 0, 1) := by decide +kernel
theorem dz_1876 : decode cL_law 1876 = .ok (.iload 4, 2) := by decide +kernel
theorem dz_1878 : decode cL_law 1878 = .ok (.iconst 1, 1) := by decide +kernel
theorem dz_1879 : decode cL_law 1879 = .ok (.iadd, 1) := by decide +kernel
theorem dz_1880 : decode cL_law 1880 = .ok (.iaload, 1) := by decide +kernel
theorem dz_1881 : decode cL_law 1881 = .ok (.aload_n 0, 1) := by decide +kernel
theorem dz_1882 : decode cL_law 1882 = .ok (.iload 4, 2) := by decide +kernel
theorem dz_1884 : decode cL_law 1884 = .ok (.iconst 2, 1) := by decide +kernel
theorem dz_1885 : decode cL_law 1885 = .ok (.iadd, 1) := by decide +kernel
theorem dz_1886 : decode cL_law 1886 = .ok (.iaload, 1) := by decide +kernel
theorem dz_1887 : decode cL_law 1887 = .ok (.aload_n 3, 1) := by decide +kernel
theorem dz_1888 : decode cL_law 1888 = .ok (.invokestatic 229, 3) := by decide +kernel
theorem dz_1891 : decode cL_law 1891 = .ok (.istore 5, 2) := by decide +kernel
theorem dz_1893 : decode cL_law 1893 = .ok (.aload_n 2, 1) := by decide +kernel
theorem dz_1894 : decode cL_law 1894 = .ok (.aload_n 0, 1) := by decide +kernel
theorem dz_1895 : decode cL_law 1895 = .ok (.iload 4, 2) := by decide +kernel
theorem dz_1897 : decode cL_law 1897 = .ok (.iconst 1, 1) := by decide +kernel
theorem dz_1898 : decode cL_law 1898 = .ok (.iadd, 1) := by decide +kernel
theorem dz_1899 : decode cL_law 1899 = .ok (.iaload, 1) := by decide +kernel
theorem dz_1900 : decode cL_law 1900 = .ok (.aload_n 0, 1) := by decide +kernel
theorem dz_1901 : decode cL_law 1901 = .ok (.iload 4, 2) := by decide +kernel
theorem dz_1903 : decode cL_law 1903 = .ok (.iconst 2, 1) := by decide +kernel
theorem dz_1904 : decode cL_law 1904 = .ok (.iadd, 1) := by decide +kernel
theorem dz_1905 : decode cL_law 1905 = .ok (.iaload, 1) := by decide +kernel
theorem dz_1906 : decode cL_law 1906 = .ok (.invokevirtual 231, 3) := by decide +kernel
theorem dz_1909 : decode cL_law 1909 = .ok (.istore 6, 2) := by decide +kernel
theorem dz_1911 : decode cL_law 1911 = .ok (.aload_n 2, 1) := by decide +kernel
theorem dz_1912 : decode cL_law 1912 = .ok (.invokevirtual 137, 3) := by decide +kernel
theorem dz_1915 : decode cL_law 1915 = .ok (.iload 5, 2) := by decide +kernel
theorem dz_1917 : decode cL_law 1917 = .ok (.if_icmp .eq 5, 3) := by decide +kernel
theorem dz_1920 : decode cL_law 1920 = .ok (.iconst 0, 1) := by decide +kernel
theorem dz_1921 : decode cL_law 1921 = .ok (.ireturn, 1) := by decide +kernel
theorem dz_1922 : decode cL_law 1922 = .ok (.iload 5, 2) := by decide +kernel
theorem dz_1924 : decode cL_law 1924 = .ok (.ifCond .ne 15, 3) := by decide +kernel
theorem dz_1927 : decode cL_law 1927 = .ok (.aload_n 3, 1) := by decide +kernel
theorem dz_1928 : decode cL_law 1928 = .ok (.iconst 0, 1) := by decide +kernel
theorem dz_1929 : decode cL_law 1929 = .ok (.laload, 1) := by decide +kernel
theorem dz_1930 : decode cL_law 1930 = .ok (.iload 6, 2) := by decide +kernel
theorem dz_1932 : decode cL_law 1932 = .ok (.i2l, 1) := by decide +kernel
theorem dz_1933 : decode cL_law 1933 = .ok (.lcmp, 1) := by decide +kernel
theorem dz_1934 : decode cL_law 1934 = .ok (.ifCond .eq 5, 3) := by decide +kernel
theorem dz_1937 : decode cL_law 1937 = .ok (.iconst 0, 1) := by decide +kernel
theorem dz_1938 : decode cL_law 1938 = .ok (.ireturn, 1) := by decide +kernel
theorem dz_1939 : decode cL_law 1939 = .ok (.goto 677, 3) := by decide +kernel
def lst_maps (vl : Nat → Nat) (K : Nat) (x1 : Int32) (x2 : Int32) (x3 : Int32) (x4 : Int32) (x5 : Int32) (zc zm : ow_MS) : Option ow_LwS :=
 cs1 (le_L_maps vl K 0 x1 x2 zc) fun v2 zc1 => cs1 (qe_X13_maps K x1 x2 zm) fun v4 zm3 => cs1 (qe_X13_thrown K zm3) fun v6 zm5 => (if v6 = v2 then (if v2 = 0 then crJ (cX vl) zc1 52001 0 fun v7 => (if (lg_cmp v7 v4.toInt64) = 0 then some (vl, zc1, zm5)
 else none)
 else some (vl, zc1, zm5))
 else none)
set_option maxHeartbeats 4000000 in
set_option maxRecDepth 100000 in
theorem lxc_maps {p : Program} {l : Launch} {e : Env} {s : State} {m : MethodId} {args : Array Value} {below : List Frame} {meth : Method} {c : Code} {b L K n : Nat} {xs : Nat → Int32} {D : va_G} {q : Nat → ClassId} {q5 : ow_Q5} {vl u w sa : Nat → Nat} {zc zm : ow_MS} {S1 : ow_LwS} {Ts : List Cond} {Q : State → Prop} {H : Heap} {locs : List Loc} {ls : Array Slot} {cells slots : Nat} (hx : p.tables.exec = Jvm.exec) (hb : c.code = cL_law) (hml : c.maxLocals = 8) (hown : s.vm.findClass RL = some m.cls) (hts : ∀ w ∈ Ts, w.before args s = true) (hX : va_X b L xs s s.heap) (hbl : b < s.heap.size) (hZ : ∀ w ∈ wZ, w ∈ Ts) (hL1 : ∀ w ∈ wLL, w ∈ Ts) (hC1 : ∀ w ∈ wC, w ∈ Ts) (hM1 : ∀ w ∈ wM, w ∈ Ts) (hG : lx_G l s D q q5 sa) (hLn : L ≤ 3072) (hn : 6 * n + 6 ≤ L) (hq : lst_maps vl K (xs (6 * n + 1)) (xs (6 * n + 2)) (xs (6 * n + 3)) (xs (6 * n + 4)) (xs (6 * n + 5)) zc zm = some S1) (hM : lx_M D q q5 s vl u w zc zm H locs) (hl : lv_has ls 8 [(0, .ref b), (1, .ref (u 0)), (2, .ref (w 0)), (3, .ref (u 52001)), (4, .int (nI (6 * n)))]) (hc : cells + 2 ≤ 600002) (hs : slots + 12 ≤ 7302232) (kk : ∀ (zc1 zm1 : ow_MS) (H1 : Heap) (locs1 : List Loc) (ls1 : Array Slot), lx_M D q q5 s vl u w zc1 zm1 H1 locs1 → lv_has ls1 8 [(0, .ref b), (1, .ref (u 0)), (2, .ref (w 0)), (3, .ref (u 52001)), (4, .int (nI (6 * n)))] → some (vl, zc1, zm1) = some S1 → W p l e room_1 s m args below meth c H1 locs1 (cells + 2) (slots + 12) Q (F0 m 2616 ls1 [])) : W p l e room_1 s m args below meth c H locs cells slots Q (F0 m 1874 ls []) := by
  have hbA : ¬ lx_A s b := Nat.not_le.mpr hbl
  generalize e1 : xs (6 * n + 1) = x1 at hq
  generalize e2 : xs (6 * n + 2) = x2 at hq
  generalize e3 : xs (6 * n + 3) = x3 at hq
  generalize e4 : xs (6 * n + 4) = x4 at hq
  generalize e5 : xs (6 * n + 5) = x5 at hq
  unfold lst_maps at hq
  refine lv_aload_n hx hb dz_1874 rfl (lv_at hl 1 rfl) ?_
  refine lv_aload_n hx hb dz_1875 rfl (lv_at hl 0 rfl) ?_
  refine lv_iload hx hb dz_1876 (lv_at hl 4 rfl) ?_
  refine lv_iconst (v := 1) hx hb dz_1878 (by decide) ?_
  refine lv_iadd hx hb dz_1879 ?_
  refine ow_topi (y := nI (6 * n + 1)) (nI_add (6 * n) 1) ?_
  refine va_sld hx hb hX hbl hbA hM.2.2.2.2.2 (vp_in_nI (n := 6 * n + 1) (N := L) (by omega) (by omega)) dz_1880 ?_
  refine ow_topi (y := x1) ((congrArg xs (nI_clamp (by omega))).trans e1) ?_
  refine lv_aload_n hx hb dz_1881 rfl (lv_at hl 0 rfl) ?_
  refine lv_iload hx hb dz_1882 (lv_at hl 4 rfl) ?_
  refine lv_iconst (v := 2) hx hb dz_1884 (by decide) ?_
  refine lv_iadd hx hb dz_1885 ?_
  refine ow_topi (y := nI (6 * n + 2)) (nI_add (6 * n) 2) ?_
  refine va_sld hx hb hX hbl hbA hM.2.2.2.2.2 (vp_in_nI (n := 6 * n + 2) (N := L) (by omega) (by omega)) dz_1886 ?_
  refine ow_topi (y := x2) ((congrArg xs (nI_clamp (by omega))).trans e2) ?_
  refine lv_aload_n hx hb dz_1887 rfl (lv_at hl 3 rfl) ?_
  obtain ⟨v2, zc1, hcq, hq⟩ := tw_cl1 hq
  refine lx_wrap hM (vx_runSX (As := [.ref (u 0), .int x1, .int x2, .ref (u 52001)]) (rest := []) ⟨hx, hb, hml, hown, hts⟩ (kl_L_maps l D q vl u hM.2.2.1.1 hG.1 sa K 0 x1 x2 (by unfold cw_X11 ci_X11; exact List.mem_singleton.mpr rfl) zc zc1 v2 hcq) (vx_cwSW 4 hts (lx_gS (lx_all wLL_good rfl) (lx_mem hL1 (hZ _ zq_199)) (hZ _ zq_200) (hZ _ zq_201) (hZ _ zq_3) rfl rfl rfl) rfl rfl rfl (by decide +kernel) ⟨(Nat.le_of_ble_eq_true rfl), (Nat.le_of_ble_eq_true rfl)⟩) (lx_preL hG hM) rfl rfl hl.1 rfl (lv_room (Nat.le_of_ble_eq_true rfl)) dz_1888 ⟨(by show _ ≤ 600002; omega), (by show _ ≤ 7302232; omega)⟩) (fun H locs hM => ?_)
  refine lv_istore (lv' := [(5, .int v2), (0, .ref b), (1, .ref (u 0)), (2, .ref (w 0)), (3, .ref (u 52001)), (4, .int (nI (6 * n)))]) hx hb dz_1891 hl (by decide) rfl (fun ls hl => ?_)
  refine lv_aload_n hx hb dz_1893 rfl (lv_at hl 3 rfl) ?_
  refine lv_aload_n hx hb dz_1894 rfl (lv_at hl 1 rfl) ?_
  refine lv_iload hx hb dz_1895 (lv_at hl 5 rfl) ?_
  refine lv_iconst (v := 1) hx hb dz_1897 (by decide) ?_
  refine lv_iadd hx hb dz_1898 ?_
  refine ow_topi (y := nI (6 * n + 1)) (nI_add (6 * n) 1) ?_
  refine va_sld hx hb hX hbl hbA hM.2.2.2.2.2 (vp_in_nI (n := 6 * n + 1) (N := L) (by omega) (by omega)) dz_1899 ?_
  refine ow_topi (y := x1) ((congrArg xs (nI_clamp (by omega))).trans e1) ?_
  refine lv_aload_n hx hb dz_1900 rfl (lv_at hl 1 rfl) ?_
  refine lv_iload hx hb dz_1901 (lv_at hl 5 rfl) ?_
  refine lv_iconst (v := 2) hx hb dz_1903 (by decide) ?_
  refine lv_iadd hx hb dz_1904 ?_
  refine ow_topi (y := nI (6 * n + 2)) (nI_add (6 * n) 2) ?_
  refine va_sld hx hb hX hbl hbA hM.2.2.2.2.2 (vp_in_nI (n := 6 * n + 2) (N := L) (by omega) (by omega)) dz_1905 ?_
  refine ow_topi (y := x2) ((congrArg xs (nI_clamp (by omega))).trans e2) ?_
  obtain ⟨v4, zm3, hcq, hq⟩ := tw_cl1 hq
  refine lx_refi hM (va_runV (As := [.int x1, .int x2]) (rest := []) ⟨hx, hb, hml, hown, hts⟩ (km_X13_maps l D q5 w hM.2.2.2.1.1 K x1 x2 zm zm3 v4 hcq) (cwV 2 hts (lx_gV (lx_all wM_good rfl) (lx_mem hM1 (hZ _ zq_202)) (hZ _ zq_203) (hZ _ zq_204) (hZ _ zq_205) (hZ _ zq_8) rfl rfl rfl rfl) rfl rfl rfl cd_X13_maps ⟨(Nat.le_of_ble_eq_true rfl), (Nat.le_of_ble_eq_true rfl)⟩) (lx_preM hG hM) rfl rfl hl.1 rfl (lv_room (Nat.le_of_ble_eq_true rfl)) dz_1906 ⟨(by show _ ≤ 600002; omega), (by show _ ≤ 7302232; omega)⟩) (fun H locs hM => ?_)
  refine lv_istore (lv' := [(6, .int v4), (5, .int v2), (0, .ref b), (1, .ref (u 0)), (2, .ref (w 0)), (3, .ref (u 52001)), (4, .int (nI (6 * n)))]) hx hb dz_1909 hl (by decide) rfl (fun ls hl => ?_)
  refine lv_aload_n hx hb dz_1911 rfl (lv_at hl 4 rfl) ?_
  obtain ⟨v6, zm5, hcq, hq⟩ := tw_cl1 hq
  refine lx_refi hM (va_runV (As := []) (rest := []) ⟨hx, hb, hml, hown, hts⟩ (km_X13_thrown l D q5 w hM.2.2.2.1.1 K zm3 zm5 v6 hcq) (cwV 0 hts (lx_gV (lx_all wM_good rfl) (lx_mem hM1 (hZ _ zq_9)) (hZ _ zq_10) (hZ _ zq_11) (hZ _ zq_12) (hZ _ zq_8) rfl rfl rfl rfl) rfl rfl rfl cd_X13_thrown ⟨(Nat.le_of_ble_eq_true rfl), (Nat.le_of_ble_eq_true rfl)⟩) (lx_preM hG hM) rfl rfl hl.1 rfl (lv_room (Nat.le_of_ble_eq_true rfl)) dz_1912 ⟨(by show _ ≤ 600002; omega), (by show _ ≤ 7302232; omega)⟩) (fun H locs hM => ?_)
  refine lv_iload hx hb dz_1915 (lv_at hl 1 rfl) ?_
  refine lv_icmp_eq (tgt := 1922) hx hb dz_1917 (by decide) (fun hc9 => ?_) (fun hc9 => ?_)
  · have hq := tw_it hq hc9
    refine lv_iload hx hb dz_1922 (lv_at hl 1 rfl) ?_
    refine lv_if_ne (tgt := 1939) hx hb dz_1924 (by decide) (fun hc9 => ?_) (fun hc9 => ?_)
    · have hq := tw_if hq hc9
      refine lv_goto (tgt := 2616) hx hb dz_1939 (by decide) ?_
      exact kk _ _ H locs ls hM (lv_sub hl [2, 3, 4, 5, 6] rfl) hq
    · have hq := tw_it hq hc9
      refine lv_aload_n hx hb dz_1927 rfl (lv_at hl 5 rfl) ?_
      refine lv_iconst (v := 0) hx hb dz_1928 (by decide) ?_
      refine uw_lald (A := lx_A s) (H0 := s.heap) cX_ok hx hb hG.2.1 ⟨hM.1, hM.2.2.2.2.2⟩ cr_out hq dz_1929 (fun v7 hq => ?_)
      refine lv_iload hx hb dz_1930 (lv_at hl 0 rfl) ?_
      refine lv_i2l hx hb dz_1932 rfl ?_
      refine W.lcmp hx hb dz_1933 ?_
      refine lv_if_eq (tgt := 1939) hx hb dz_1934 (by decide) (fun hc9 => ?_) (fun hc9 => ?_)
      · have hq := tw_it hq hc9
        refine lv_goto (tgt := 2616) hx hb dz_1939 (by decide) ?_
        exact kk _ _ H locs ls hM (lv_sub hl [2, 3, 4, 5, 6] rfl) hq
      · have hq := tw_if hq hc9
        refine lv_iconst (v := 0) hx hb dz_1937 (by decide) ?_
        exact cw_no hq
  · have hq := tw_if hq hc9
    refine lv_iconst (v := 0) hx hb dz_1920 (by decide) ?_
    exact cw_no hq
theorem dz_1942 : decode cL_law 1942 = .ok (.aload_n 1, 1) := by decide +kernel
theorem dz_1943 : decode cL_law 1943 = .ok (.aload_n 0, 1) := by decide +kernel
theorem dz_1944 : decode cL_law 1944 = .ok (.iload 4, 2) := by decide +kernel
theorem dz_1946 : decode cL_law 1946 = .ok (.iconst 1, 1) := by decide +kernel
theorem dz_1947 : decode cL_law 1947 = .ok (.iadd, 1) := by decide +kernel
theorem dz_1948 : decode cL_law 1948 = .ok (.iaload, 1) := by decide +kernel
theorem dz_1949 : decode cL_law 1949 = .ok (.aload_n 0, 1) := by decide +kernel
theorem dz_1950 : decode cL_law 1950 = .ok (.iload 4, 2) := by decide +kernel
theorem dz_1952 : decode cL_law 1952 = .ok (.iconst 2, 1) := by decide +kernel
theorem dz_1953 : decode cL_law 1953 = .ok (.iadd, 1) := by decide +kernel
theorem dz_1954 : decode cL_law 1954 = .ok (.iaload, 1) := by decide +kernel
theorem dz_1955 : decode cL_law 1955 = .ok (.aload_n 3, 1) := by decide +kernel
theorem dz_1956 : decode cL_law 1956 = .ok (.invokestatic 232, 3) := by decide +kernel
theorem dz_1959 : decode cL_law 1959 = .ok (.istore 5, 2) := by decide +kernel
theorem dz_1961 : decode cL_law 1961 = .ok (.aload_n 2, 1) := by decide +kernel
theorem dz_1962 : decode cL_law 1962 = .ok (.aload_n 0, 1) := by decide +kernel
theorem dz_1963 : decode cL_law 1963 = .ok (.iload 4, 2) := by decide +kernel
theorem dz_1965 : decode cL_law 1965 = .ok (.iconst 1, 1) := by decide +kernel
theorem dz_1966 : decode cL_law 1966 = .ok (.iadd, 1) := by decide +kernel
theorem dz_1967 : decode cL_law 1967 = .ok (.iaload, 1) := by decide +kernel
theorem dz_1968 : decode cL_law 1968 = .ok (.aload_n 0, 1) := by decide +kernel
theorem dz_1969 : decode cL_law 1969 = .ok (.iload 4, 2) := by decide +kernel
theorem dz_1971 : decode cL_law 1971 = .ok (.iconst 2, 1) := by decide +kernel
theorem dz_1972 : decode cL_law 1972 = .ok (.iadd, 1) := by decide +kernel
theorem dz_1973 : decode cL_law 1973 = .ok (.iaload, 1) := by decide +kernel
theorem dz_1974 : decode cL_law 1974 = .ok (.invokevirtual 234, 3) := by decide +kernel
theorem dz_1977 : decode cL_law 1977 = .ok (.istore 6, 2) := by decide +kernel
theorem dz_1979 : decode cL_law 1979 = .ok (.aload_n 2, 1) := by decide +kernel
theorem dz_1980 : decode cL_law 1980 = .ok (.invokevirtual 137, 3) := by decide +kernel
theorem dz_1983 : decode cL_law 1983 = .ok (.iload 5, 2) := by decide +kernel
theorem dz_1985 : decode cL_law 1985 = .ok (.if_icmp .eq 5, 3) := by decide +kernel
theorem dz_1988 : decode cL_law 1988 = .ok (.iconst 0, 1) := by decide +kernel
theorem dz_1989 : decode cL_law 1989 = .ok (.ireturn, 1) := by decide +kernel
theorem dz_1990 : decode cL_law 1990 = .ok (.iload 5, 2) := by decide +kernel
theorem dz_1992 : decode cL_law 1992 = .ok (.ifCond .ne 15, 3) := by decide +kernel
theorem dz_1995 : decode cL_law 1995 = .ok (.aload_n 3, 1) := by decide +kernel
theorem dz_1996 : decode cL_law 1996 = .ok (.iconst 0, 1) := by decide +kernel
theorem dz_1997 : decode cL_law 1997 = .ok (.laload, 1) := by decide +kernel
theorem dz_1998 : decode cL_law 1998 = .ok (.iload 6, 2) := by decide +kernel
theorem dz_2000 : decode cL_law 2000 = .ok (.i2l, 1) := by decide +kernel
theorem dz_2001 : decode cL_law 2001 = .ok (.lcmp, 1) := by decide +kernel
theorem dz_2002 : decode cL_law 2002 = .ok (.ifCond .eq 5, 3) := by decide +kernel
theorem dz_2005 : decode cL_law 2005 = .ok (.iconst 0, 1) := by decide +kernel
theorem dz_2006 : decode cL_law 2006 = .ok (.ireturn, 1) := by decide +kernel
theorem dz_2007 : decode cL_law 2007 = .ok (.goto 609, 3) := by decide +kernel
def lst_chain (vl : Nat → Nat) (K : Nat) (x1 : Int32) (x2 : Int32) (x3 : Int32) (x4 : Int32) (x5 : Int32) (zc zm : ow_MS) : Option ow_LwS :=
 dc1 (le_L_chain vl K 0 x1 x2 zc) fun v2 vm3 zc1 => cs1 (qe_X13_chain K x1 x2 zm) fun v5 zm4 => cs1 (qe_X13_thrown K zm4) fun v7 zm6 => (if v7 = v2 then (if v2 = 0 then crJ (cX vm3) zc1 52001 0 fun v8 => (if (lg_cmp v8 v5.toInt64) = 0 then some (vm3, zc1, zm6)
 else none)
 else some (vm3, zc1, zm6))
 else none)
set_option maxHeartbeats 4000000 in
set_option maxRecDepth 100000 in
theorem lxc_chain {p : Program} {l : Launch} {e : Env} {s : State} {m : MethodId} {args : Array Value} {below : List Frame} {meth : Method} {c : Code} {b L K n : Nat} {xs : Nat → Int32} {D : va_G} {q : Nat → ClassId} {q5 : ow_Q5} {vl u w sa : Nat → Nat} {zc zm : ow_MS} {S1 : ow_LwS} {Ts : List Cond} {Q : State → Prop} {H : Heap} {locs : List Loc} {ls : Array Slot} {cells slots : Nat} (hx : p.tables.exec = Jvm.exec) (hb : c.code = cL_law) (hml : c.maxLocals = 8) (hown : s.vm.findClass RL = some m.cls) (hts : ∀ w ∈ Ts, w.before args s = true) (hX : va_X b L xs s s.heap) (hbl : b < s.heap.size) (hZ : ∀ w ∈ wZ, w ∈ Ts) (hL1 : ∀ w ∈ wLL, w ∈ Ts) (hC1 : ∀ w ∈ wC, w ∈ Ts) (hM1 : ∀ w ∈ wM, w ∈ Ts) (hG : lx_G l s D q q5 sa) (hLn : L ≤ 3072) (hn : 6 * n + 6 ≤ L) (hq : lst_chain vl K (xs (6 * n + 1)) (xs (6 * n + 2)) (xs (6 * n + 3)) (xs (6 * n + 4)) (xs (6 * n + 5)) zc zm = some S1) (hM : lx_M D q q5 s vl u w zc zm H locs) (hl : lv_has ls 8 [(0, .ref b), (1, .ref (u 0)), (2, .ref (w 0)), (3, .ref (u 52001)), (4, .int (nI (6 * n)))]) (hc : ∀ r v z1, le_L_chain vl K 0 (xs (6 * n + 1)) (xs (6 * n + 2)) zc = some (r, v, z1) → cells + (2 + dca vl v) ≤ 600002 ∧ slots + (12 + dsl vl v) ≤ 7302232) (kk : ∀ (vl1 u1 : Nat → Nat) (zc1 zm1 : ow_MS) (H1 : Heap) (locs1 : List Loc) (ls1 : Array Slot), lx_M D q q5 s vl1 u1 w zc1 zm1 H1 locs1 → lv_has ls1 8 [(0, .ref b), (1, .ref (u1 0)), (2, .ref (w 0)), (3, .ref (u1 52001)), (4, .int (nI (6 * n)))] → some (vl1, zc1, zm1) = some S1 → W p l e room_1 s m args below meth c H1 locs1 (cells + (2 + dca vl vl1)) (slots + (12 + dsl vl vl1)) Q (F0 m 2616 ls1 [])) : W p l e room_1 s m args below meth c H locs cells slots Q (F0 m 1942 ls []) := by
  have hbA : ¬ lx_A s b := Nat.not_le.mpr hbl
  generalize e1 : xs (6 * n + 1) = x1 at hq hc
  generalize e2 : xs (6 * n + 2) = x2 at hq hc
  generalize e3 : xs (6 * n + 3) = x3 at hq
  generalize e4 : xs (6 * n + 4) = x4 at hq
  generalize e5 : xs (6 * n + 5) = x5 at hq
  unfold lst_chain at hq
  refine lv_aload_n hx hb dz_1942 rfl (lv_at hl 1 rfl) ?_
  refine lv_aload_n hx hb dz_1943 rfl (lv_at hl 0 rfl) ?_
  refine lv_iload hx hb dz_1944 (lv_at hl 4 rfl) ?_
  refine lv_iconst (v := 1) hx hb dz_1946 (by decide) ?_
  refine lv_iadd hx hb dz_1947 ?_
  refine ow_topi (y := nI (6 * n + 1)) (nI_add (6 * n) 1) ?_
  refine va_sld hx hb hX hbl hbA hM.2.2.2.2.2 (vp_in_nI (n := 6 * n + 1) (N := L) (by omega) (by omega)) dz_1948 ?_
  refine ow_topi (y := x1) ((congrArg xs (nI_clamp (by omega))).trans e1) ?_
  refine lv_aload_n hx hb dz_1949 rfl (lv_at hl 0 rfl) ?_
  refine lv_iload hx hb dz_1950 (lv_at hl 4 rfl) ?_
  refine lv_iconst (v := 2) hx hb dz_1952 (by decide) ?_
  refine lv_iadd hx hb dz_1953 ?_
  refine ow_topi (y := nI (6 * n + 2)) (nI_add (6 * n) 2) ?_
  refine va_sld hx hb hX hbl hbA hM.2.2.2.2.2 (vp_in_nI (n := 6 * n + 2) (N := L) (by omega) (by omega)) dz_1954 ?_
  refine ow_topi (y := x2) ((congrArg xs (nI_clamp (by omega))).trans e2) ?_
  refine lv_aload_n hx hb dz_1955 rfl (lv_at hl 3 rfl) ?_
  obtain ⟨v2, vm3, zc1, hcq, hq⟩ := dd_dc1 hq
  obtain ⟨hc, hs⟩ := hc v2 vm3 zc1 hcq
  refine lx_wrapD hM (vx_runSX (As := [.ref (u 0), .int x1, .int x2, .ref (u 52001)]) (rest := []) ⟨hx, hb, hml, hown, hts⟩ (kl_L_chain l D q vl u hM.2.2.1.1 hG.1 sa K 0 x1 x2 (by unfold cw_X11 ci_X11; exact List.mem_singleton.mpr rfl) zc zc1 vm3 v2 H.size hcq) (vx_cwSW 4 hts (lx_gS (lx_all wLL_good rfl) (lx_mem hL1 (hZ _ zq_206)) (hZ _ zq_207) (hZ _ zq_208) (hZ _ zq_3) rfl rfl rfl) rfl rfl rfl (by decide +kernel) ⟨(Nat.le_of_ble_eq_true rfl), (Nat.le_of_ble_eq_true rfl)⟩) (lx_preLD hG hM) rfl rfl hl.1 rfl (lv_room (Nat.le_of_ble_eq_true rfl)) dz_1956 ⟨(by show _ ≤ 600002; omega), (by show _ ≤ 7302232; omega)⟩) (fun u1 H locs hM hs1 => ?_)
  have hl : lv_has ls 8 [(0, .ref b), (1, .ref (u1 0)), (2, .ref (w 0)), (3, .ref (u1 52001)), (4, .int (nI (6 * n)))] := by rw [hs1 0 (by decide), hs1 52001 (by decide)]; exact hl
  refine lv_istore (lv' := [(5, .int v2), (0, .ref b), (1, .ref (u1 0)), (2, .ref (w 0)), (3, .ref (u1 52001)), (4, .int (nI (6 * n)))]) hx hb dz_1959 hl (by decide) rfl (fun ls hl => ?_)
  refine lv_aload_n hx hb dz_1961 rfl (lv_at hl 3 rfl) ?_
  refine lv_aload_n hx hb dz_1962 rfl (lv_at hl 1 rfl) ?_
  refine lv_iload hx hb dz_1963 (lv_at hl 5 rfl) ?_
  refine lv_iconst (v := 1) hx hb dz_1965 (by decide) ?_
  refine lv_iadd hx hb dz_1966 ?_
  refine ow_topi (y := nI (6 * n + 1)) (nI_add (6 * n) 1) ?_
  refine va_sld hx hb hX hbl hbA hM.2.2.2.2.2 (vp_in_nI (n := 6 * n + 1) (N := L) (by omega) (by omega)) dz_1967 ?_
  refine ow_topi (y := x1) ((congrArg xs (nI_clamp (by omega))).trans e1) ?_
  refine lv_aload_n hx hb dz_1968 rfl (lv_at hl 1 rfl) ?_
  refine lv_iload hx hb dz_1969 (lv_at hl 5 rfl) ?_
  refine lv_iconst (v := 2) hx hb dz_1971 (by decide) ?_
  refine lv_iadd hx hb dz_1972 ?_
  refine ow_topi (y := nI (6 * n + 2)) (nI_add (6 * n) 2) ?_
  refine va_sld hx hb hX hbl hbA hM.2.2.2.2.2 (vp_in_nI (n := 6 * n + 2) (N := L) (by omega) (by omega)) dz_1973 ?_
  refine ow_topi (y := x2) ((congrArg xs (nI_clamp (by omega))).trans e2) ?_
  obtain ⟨v5, zm4, hcq, hq⟩ := tw_cl1 hq
  refine lx_refi hM (va_runV (As := [.int x1, .int x2]) (rest := []) ⟨hx, hb, hml, hown, hts⟩ (km_X13_chain l D q5 w hM.2.2.2.1.1 K x1 x2 zm zm4 v5 hcq) (cwV 2 hts (lx_gV (lx_all wM_good rfl) (lx_mem hM1 (hZ _ zq_209)) (hZ _ zq_210) (hZ _ zq_211) (hZ _ zq_212) (hZ _ zq_8) rfl rfl rfl rfl) rfl rfl rfl cd_X13_chain ⟨(Nat.le_of_ble_eq_true rfl), (Nat.le_of_ble_eq_true rfl)⟩) (lx_preM hG hM) rfl rfl hl.1 rfl (lv_room (Nat.le_of_ble_eq_true rfl)) dz_1974 ⟨(by show _ ≤ 600002; omega), (by show _ ≤ 7302232; omega)⟩) (fun H locs hM => ?_)
  refine lv_istore (lv' := [(6, .int v5), (5, .int v2), (0, .ref b), (1, .ref (u1 0)), (2, .ref (w 0)), (3, .ref (u1 52001)), (4, .int (nI (6 * n)))]) hx hb dz_1977 hl (by decide) rfl (fun ls hl => ?_)
  refine lv_aload_n hx hb dz_1979 rfl (lv_at hl 4 rfl) ?_
  obtain ⟨v7, zm6, hcq, hq⟩ := tw_cl1 hq
  refine lx_refi hM (va_runV (As := []) (rest := []) ⟨hx, hb, hml, hown, hts⟩ (km_X13_thrown l D q5 w hM.2.2.2.1.1 K zm4 zm6 v7 hcq) (cwV 0 hts (lx_gV (lx_all wM_good rfl) (lx_mem hM1 (hZ _ zq_9)) (hZ _ zq_10) (hZ _ zq_11) (hZ _ zq_12) (hZ _ zq_8) rfl rfl rfl rfl) rfl rfl rfl cd_X13_thrown ⟨(Nat.le_of_ble_eq_true rfl), (Nat.le_of_ble_eq_true rfl)⟩) (lx_preM hG hM) rfl rfl hl.1 rfl (lv_room (Nat.le_of_ble_eq_true rfl)) dz_1980 ⟨(by show _ ≤ 600002; omega), (by show _ ≤ 7302232; omega)⟩) (fun H locs hM => ?_)
  refine lv_iload hx hb dz_1983 (lv_at hl 1 rfl) ?_
  refine lv_icmp_eq (tgt := 1990) hx hb dz_1985 (by decide) (fun hc9 => ?_) (fun hc9 => ?_)
  · have hq := tw_it hq hc9
    refine lv_iload hx hb dz_1990 (lv_at hl 1 rfl) ?_
    refine lv_if_ne (tgt := 2007) hx hb dz_1992 (by decide) (fun hc9 => ?_) (fun hc9 => ?_)
    · have hq := tw_if hq hc9
      refine lv_goto (tgt := 2616) hx hb dz_2007 (by decide) ?_
      exact kk _ _ _ _ H locs ls hM (lv_sub hl [2, 3, 4, 5, 6] rfl) hq
    · have hq := tw_it hq hc9
      refine lv_aload_n hx hb dz_1995 rfl (lv_at hl 5 rfl) ?_
      refine lv_iconst (v := 0) hx hb dz_1996 (by decide) ?_
      refine uw_lald (A := lx_A s) (H0 := s.heap) cX_ok hx hb hG.2.1 ⟨hM.1, hM.2.2.2.2.2⟩ cr_out hq dz_1997 (fun v8 hq => ?_)
      refine lv_iload hx hb dz_1998 (lv_at hl 0 rfl) ?_
      refine lv_i2l hx hb dz_2000 rfl ?_
      refine W.lcmp hx hb dz_2001 ?_
      refine lv_if_eq (tgt := 2007) hx hb dz_2002 (by decide) (fun hc9 => ?_) (fun hc9 => ?_)
      · have hq := tw_it hq hc9
        refine lv_goto (tgt := 2616) hx hb dz_2007 (by decide) ?_
        exact kk _ _ _ _ H locs ls hM (lv_sub hl [2, 3, 4, 5, 6] rfl) hq
      · have hq := tw_if hq hc9
        refine lv_iconst (v := 0) hx hb dz_2005 (by decide) ?_
        exact cw_no hq
  · have hq := tw_if hq hc9
    refine lv_iconst (v := 0) hx hb dz_1988 (by decide) ?_
    exact cw_no hq
theorem dz_2010 : decode cL_law 2010 = .ok (.aload_n 1, 1) := by decide +kernel
theorem dz_2011 : decode cL_law 2011 = .ok (.aload_n 0, 1) := by decide +kernel
theorem dz_2012 : decode cL_law 2012 = .ok (.iload 4, 2) := by decide +kernel
theorem dz_2014 : decode cL_law 2014 = .ok (.iconst 1, 1) := by decide +kernel
theorem dz_2015 : decode cL_law 2015 = .ok (.iadd, 1) := by decide +kernel
theorem dz_2016 : decode cL_law 2016 = .ok (.iaload, 1) := by decide +kernel
theorem dz_2017 : decode cL_law 2017 = .ok (.aload_n 0, 1) := by decide +kernel
theorem dz_2018 : decode cL_law 2018 = .ok (.iload 4, 2) := by decide +kernel
theorem dz_2020 : decode cL_law 2020 = .ok (.iconst 2, 1) := by decide +kernel
theorem dz_2021 : decode cL_law 2021 = .ok (.iadd, 1) := by decide +kernel
theorem dz_2022 : decode cL_law 2022 = .ok (.iaload, 1) := by decide +kernel
theorem dz_2023 : decode cL_law 2023 = .ok (.invokevirtual 235, 3) := by decide +kernel
theorem dz_2026 : decode cL_law 2026 = .ok (.aload_n 2, 1) := by decide +kernel
theorem dz_2027 : decode cL_law 2027 = .ok (.aload_n 0, 1) := by decide +kernel
theorem dz_2028 : decode cL_law 2028 = .ok (.iload 4, 2) := by decide +kernel
theorem dz_2030 : decode cL_law 2030 = .ok (.iconst 1, 1) := by decide +kernel
theorem dz_2031 : decode cL_law 2031 = .ok (.iadd, 1) := by decide +kernel
theorem dz_2032 : decode cL_law 2032 = .ok (.iaload, 1) := by decide +kernel
theorem dz_2033 : decode cL_law 2033 = .ok (.aload_n 0, 1) := by decide +kernel
theorem dz_2034 : decode cL_law 2034 = .ok (.iload 4, 2) := by decide +kernel
theorem dz_2036 : decode cL_law 2036 = .ok (.iconst 2, 1) := by decide +kernel
theorem dz_2037 : decode cL_law 2037 = .ok (.iadd, 1) := by decide +kernel
theorem dz_2038 : decode cL_law 2038 = .ok (.iaload, 1) := by decide +kernel
theorem dz_2039 : decode cL_law 2039 = .ok (.invokevirtual 238, 3) := by decide +kernel
theorem dz_2042 : decode cL_law 2042 = .ok (.if_icmp .eq 574, 3) := by decide +kernel
theorem dz_2045 : decode cL_law 2045 = .ok (.iconst 0, 1) := by decide +kernel
theorem dz_2046 : decode cL_law 2046 = .ok (.ireturn, 1) := by decide +kernel
def lst_rank (vl : Nat → Nat) (K : Nat) (x1 : Int32) (x2 : Int32) (x3 : Int32) (x4 : Int32) (x5 : Int32) (zc zm : ow_MS) : Option ow_LwS :=
 cs1 (ce_X11_rank vl K 0 x1 x2 zc) fun v2 zc1 => cs1 (qe_X13_rank K x1 x2 zm) fun v4 zm3 => (if v2 = v4 then some (vl, zc1, zm3)
 else none)
set_option maxHeartbeats 4000000 in
set_option maxRecDepth 100000 in
theorem lxc_rank {p : Program} {l : Launch} {e : Env} {s : State} {m : MethodId} {args : Array Value} {below : List Frame} {meth : Method} {c : Code} {b L K n : Nat} {xs : Nat → Int32} {D : va_G} {q : Nat → ClassId} {q5 : ow_Q5} {vl u w sa : Nat → Nat} {zc zm : ow_MS} {S1 : ow_LwS} {Ts : List Cond} {Q : State → Prop} {H : Heap} {locs : List Loc} {ls : Array Slot} {cells slots : Nat} (hx : p.tables.exec = Jvm.exec) (hb : c.code = cL_law) (hml : c.maxLocals = 8) (hown : s.vm.findClass RL = some m.cls) (hts : ∀ w ∈ Ts, w.before args s = true) (hX : va_X b L xs s s.heap) (hbl : b < s.heap.size) (hZ : ∀ w ∈ wZ, w ∈ Ts) (hL1 : ∀ w ∈ wLL, w ∈ Ts) (hC1 : ∀ w ∈ wC, w ∈ Ts) (hM1 : ∀ w ∈ wM, w ∈ Ts) (hG : lx_G l s D q q5 sa) (hLn : L ≤ 3072) (hn : 6 * n + 6 ≤ L) (hq : lst_rank vl K (xs (6 * n + 1)) (xs (6 * n + 2)) (xs (6 * n + 3)) (xs (6 * n + 4)) (xs (6 * n + 5)) zc zm = some S1) (hM : lx_M D q q5 s vl u w zc zm H locs) (hl : lv_has ls 8 [(0, .ref b), (1, .ref (u 0)), (2, .ref (w 0)), (3, .ref (u 52001)), (4, .int (nI (6 * n)))]) (hc : cells + 0 ≤ 600002) (hs : slots + 0 ≤ 7302232) (kk : ∀ (zc1 zm1 : ow_MS) (H1 : Heap) (locs1 : List Loc) (ls1 : Array Slot), lx_M D q q5 s vl u w zc1 zm1 H1 locs1 → lv_has ls1 8 [(0, .ref b), (1, .ref (u 0)), (2, .ref (w 0)), (3, .ref (u 52001)), (4, .int (nI (6 * n)))] → some (vl, zc1, zm1) = some S1 → W p l e room_1 s m args below meth c H1 locs1 (cells + 0) (slots + 0) Q (F0 m 2616 ls1 [])) : W p l e room_1 s m args below meth c H locs cells slots Q (F0 m 2010 ls []) := by
  have hbA : ¬ lx_A s b := Nat.not_le.mpr hbl
  generalize e1 : xs (6 * n + 1) = x1 at hq
  generalize e2 : xs (6 * n + 2) = x2 at hq
  generalize e3 : xs (6 * n + 3) = x3 at hq
  generalize e4 : xs (6 * n + 4) = x4 at hq
  generalize e5 : xs (6 * n + 5) = x5 at hq
  unfold lst_rank at hq
  refine lv_aload_n hx hb dz_2010 rfl (lv_at hl 1 rfl) ?_
  refine lv_aload_n hx hb dz_2011 rfl (lv_at hl 0 rfl) ?_
  refine lv_iload hx hb dz_2012 (lv_at hl 4 rfl) ?_
  refine lv_iconst (v := 1) hx hb dz_2014 (by decide) ?_
  refine lv_iadd hx hb dz_2015 ?_
  refine ow_topi (y := nI (6 * n + 1)) (nI_add (6 * n) 1) ?_
  refine va_sld hx hb hX hbl hbA hM.2.2.2.2.2 (vp_in_nI (n := 6 * n + 1) (N := L) (by omega) (by omega)) dz_2016 ?_
  refine ow_topi (y := x1) ((congrArg xs (nI_clamp (by omega))).trans e1) ?_
  refine lv_aload_n hx hb dz_2017 rfl (lv_at hl 0 rfl) ?_
  refine lv_iload hx hb dz_2018 (lv_at hl 4 rfl) ?_
  refine lv_iconst (v := 2) hx hb dz_2020 (by decide) ?_
  refine lv_iadd hx hb dz_2021 ?_
  refine ow_topi (y := nI (6 * n + 2)) (nI_add (6 * n) 2) ?_
  refine va_sld hx hb hX hbl hbA hM.2.2.2.2.2 (vp_in_nI (n := 6 * n + 2) (N := L) (by omega) (by omega)) dz_2022 ?_
  refine ow_topi (y := x2) ((congrArg xs (nI_clamp (by omega))).trans e2) ?_
  obtain ⟨v2, zc1, hcq, hq⟩ := tw_cl1 hq
  refine lx_cls hM (va_runV (As := [.int x1, .int x2]) (rest := []) ⟨hx, hb, hml, hown, hts⟩ (kc_X11_rank l D q vl u hM.2.2.1.1 K 0 x1 x2 (by unfold cw_X11 ci_X11; exact List.mem_singleton.mpr rfl) zc zc1 v2 hcq) (cwV 2 hts (lx_gV (lx_all wC_good rfl) (lx_mem hC1 (hZ _ zq_213)) (hZ _ zq_214) (hZ _ zq_215) (hZ _ zq_216) (hZ _ zq_38) rfl rfl rfl rfl) rfl rfl rfl cdd_X11_rank ⟨(Nat.le_of_ble_eq_true rfl), (Nat.le_of_ble_eq_true rfl)⟩) (lx_preC hG hM) rfl rfl hl.1 rfl (lv_room (Nat.le_of_ble_eq_true rfl)) dz_2023 ⟨(by show _ ≤ 600002; omega), (by show _ ≤ 7302232; omega)⟩) (fun H locs hM => ?_)
  refine lv_aload_n hx hb dz_2026 rfl (lv_at hl 2 rfl) ?_
  refine lv_aload_n hx hb dz_2027 rfl (lv_at hl 0 rfl) ?_
  refine lv_iload hx hb dz_2028 (lv_at hl 4 rfl) ?_
  refine lv_iconst (v := 1) hx hb dz_2030 (by decide) ?_
  refine lv_iadd hx hb dz_2031 ?_
  refine ow_topi (y := nI (6 * n + 1)) (nI_add (6 * n) 1) ?_
  refine va_sld hx hb hX hbl hbA hM.2.2.2.2.2 (vp_in_nI (n := 6 * n + 1) (N := L) (by omega) (by omega)) dz_2032 ?_
  refine ow_topi (y := x1) ((congrArg xs (nI_clamp (by omega))).trans e1) ?_
  refine lv_aload_n hx hb dz_2033 rfl (lv_at hl 0 rfl) ?_
  refine lv_iload hx hb dz_2034 (lv_at hl 4 rfl) ?_
  refine lv_iconst (v := 2) hx hb dz_2036 (by decide) ?_
  refine lv_iadd hx hb dz_2037 ?_
  refine ow_topi (y := nI (6 * n + 2)) (nI_add (6 * n) 2) ?_
  refine va_sld hx hb hX hbl hbA hM.2.2.2.2.2 (vp_in_nI (n := 6 * n + 2) (N := L) (by omega) (by omega)) dz_2038 ?_
  refine ow_topi (y := x2) ((congrArg xs (nI_clamp (by omega))).trans e2) ?_
  obtain ⟨v4, zm3, hcq, hq⟩ := tw_cl1 hq
  refine lx_refi hM (va_runV (As := [.int x1, .int x2]) (rest := [.int v2]) ⟨hx, hb, hml, hown, hts⟩ (km_X13_rank l D q5 w hM.2.2.2.1.1 K x1 x2 zm zm3 v4 hcq) (cwV 2 hts (lx_gV (lx_all wM_good rfl) (lx_mem hM1 (hZ _ zq_217)) (hZ _ zq_218) (hZ _ zq_219) (hZ _ zq_220) (hZ _ zq_8) rfl rfl rfl rfl) rfl rfl rfl cd_X13_rank ⟨(Nat.le_of_ble_eq_true rfl), (Nat.le_of_ble_eq_true rfl)⟩) (lx_preM hG hM) rfl rfl hl.1 rfl (lv_room (Nat.le_of_ble_eq_true rfl)) dz_2039 ⟨(by show _ ≤ 600002; omega), (by show _ ≤ 7302232; omega)⟩) (fun H locs hM => ?_)
  refine lv_icmp_eq (tgt := 2616) hx hb dz_2042 (by decide) (fun hc9 => ?_) (fun hc9 => ?_)
  · have hq := tw_it hq hc9
    exact kk _ _ H locs ls hM (lv_sub hl [0, 1, 2, 3, 4] rfl) hq
  · have hq := tw_if hq hc9
    refine lv_iconst (v := 0) hx hb dz_2045 (by decide) ?_
    exact cw_no hq
theorem dz_2047 : decode cL_law 2047 = .ok (.aload_n 1, 1) := by decide +kernel
theorem dz_2048 : decode cL_law 2048 = .ok (.aload_n 0, 1) := by decide +kernel
theorem dz_2049 : decode cL_law 2049 = .ok (.iload 4, 2) := by decide +kernel
theorem dz_2051 : decode cL_law 2051 = .ok (.iconst 1, 1) := by decide +kernel
theorem dz_2052 : decode cL_law 2052 = .ok (.iadd, 1) := by decide +kernel
theorem dz_2053 : decode cL_law 2053 = .ok (.iaload, 1) := by decide +kernel
theorem dz_2054 : decode cL_law 2054 = .ok (.aload_n 3, 1) := by decide +kernel
theorem dz_2055 : decode cL_law 2055 = .ok (.invokestatic 239, 3) := by decide +kernel
theorem dz_2058 : decode cL_law 2058 = .ok (.istore 5, 2) := by decide +kernel
theorem dz_2060 : decode cL_law 2060 = .ok (.aload_n 2, 1) := by decide +kernel
theorem dz_2061 : decode cL_law 2061 = .ok (.aload_n 0, 1) := by decide +kernel
theorem dz_2062 : decode cL_law 2062 = .ok (.iload 4, 2) := by decide +kernel
theorem dz_2064 : decode cL_law 2064 = .ok (.iconst 1, 1) := by decide +kernel
theorem dz_2065 : decode cL_law 2065 = .ok (.iadd, 1) := by decide +kernel
theorem dz_2066 : decode cL_law 2066 = .ok (.iaload, 1) := by decide +kernel
theorem dz_2067 : decode cL_law 2067 = .ok (.invokevirtual 241, 3) := by decide +kernel
theorem dz_2070 : decode cL_law 2070 = .ok (.istore 6, 2) := by decide +kernel
theorem dz_2072 : decode cL_law 2072 = .ok (.aload_n 2, 1) := by decide +kernel
theorem dz_2073 : decode cL_law 2073 = .ok (.invokevirtual 137, 3) := by decide +kernel
theorem dz_2076 : decode cL_law 2076 = .ok (.iload 5, 2) := by decide +kernel
theorem dz_2078 : decode cL_law 2078 = .ok (.if_icmp .eq 5, 3) := by decide +kernel
theorem dz_2081 : decode cL_law 2081 = .ok (.iconst 0, 1) := by decide +kernel
theorem dz_2082 : decode cL_law 2082 = .ok (.ireturn, 1) := by decide +kernel
theorem dz_2083 : decode cL_law 2083 = .ok (.iload 5, 2) := by decide +kernel
theorem dz_2085 : decode cL_law 2085 = .ok (.ifCond .ne 15, 3) := by decide +kernel
theorem dz_2088 : decode cL_law 2088 = .ok (.aload_n 3, 1) := by decide +kernel
theorem dz_2089 : decode cL_law 2089 = .ok (.iconst 0, 1) := by decide +kernel
theorem dz_2090 : decode cL_law 2090 = .ok (.laload, 1) := by decide +kernel
theorem dz_2091 : decode cL_law 2091 = .ok (.iload 6, 2) := by decide +kernel
theorem dz_2093 : decode cL_law 2093 = .ok (.i2l, 1) := by decide +kernel
theorem dz_2094 : decode cL_law 2094 = .ok (.lcmp, 1) := by decide +kernel
theorem dz_2095 : decode cL_law 2095 = .ok (.ifCond .eq 5, 3) := by decide +kernel
theorem dz_2098 : decode cL_law 2098 = .ok (.iconst 0, 1) := by decide +kernel
theorem dz_2099 : decode cL_law 2099 = .ok (.ireturn, 1) := by decide +kernel
theorem dz_2100 : decode cL_law 2100 = .ok (.goto 516, 3) := by decide +kernel
def lst_closure (vl : Nat → Nat) (K : Nat) (x1 : Int32) (x2 : Int32) (x3 : Int32) (x4 : Int32) (x5 : Int32) (zc zm : ow_MS) : Option ow_LwS :=
 cs1 (le_L_closure vl K 0 x1 zc) fun v2 zc1 => cs1 (qe_X13_closure K x1 zm) fun v4 zm3 => cs1 (qe_X13_thrown K zm3) fun v6 zm5 => (if v6 = v2 then (if v2 = 0 then crJ (cX vl) zc1 52001 0 fun v7 => (if (lg_cmp v7 v4.toInt64) = 0 then some (vl, zc1, zm5)
 else none)
 else some (vl, zc1, zm5))
 else none)
set_option maxHeartbeats 4000000 in
set_option maxRecDepth 100000 in
theorem lxc_closure {p : Program} {l : Launch} {e : Env} {s : State} {m : MethodId} {args : Array Value} {below : List Frame} {meth : Method} {c : Code} {b L K n : Nat} {xs : Nat → Int32} {D : va_G} {q : Nat → ClassId} {q5 : ow_Q5} {vl u w sa : Nat → Nat} {zc zm : ow_MS} {S1 : ow_LwS} {Ts : List Cond} {Q : State → Prop} {H : Heap} {locs : List Loc} {ls : Array Slot} {cells slots : Nat} (hx : p.tables.exec = Jvm.exec) (hb : c.code = cL_law) (hml : c.maxLocals = 8) (hown : s.vm.findClass RL = some m.cls) (hts : ∀ w ∈ Ts, w.before args s = true) (hX : va_X b L xs s s.heap) (hbl : b < s.heap.size) (hZ : ∀ w ∈ wZ, w ∈ Ts) (hL1 : ∀ w ∈ wLL, w ∈ Ts) (hC1 : ∀ w ∈ wC, w ∈ Ts) (hM1 : ∀ w ∈ wM, w ∈ Ts) (hG : lx_G l s D q q5 sa) (hLn : L ≤ 3072) (hn : 6 * n + 6 ≤ L) (hq : lst_closure vl K (xs (6 * n + 1)) (xs (6 * n + 2)) (xs (6 * n + 3)) (xs (6 * n + 4)) (xs (6 * n + 5)) zc zm = some S1) (hM : lx_M D q q5 s vl u w zc zm H locs) (hl : lv_has ls 8 [(0, .ref b), (1, .ref (u 0)), (2, .ref (w 0)), (3, .ref (u 52001)), (4, .int (nI (6 * n)))]) (hc : cells + 3 ≤ 600002) (hs : slots + 18 ≤ 7302232) (kk : ∀ (zc1 zm1 : ow_MS) (H1 : Heap) (locs1 : List Loc) (ls1 : Array Slot), lx_M D q q5 s vl u w zc1 zm1 H1 locs1 → lv_has ls1 8 [(0, .ref b), (1, .ref (u 0)), (2, .ref (w 0)), (3, .ref (u 52001)), (4, .int (nI (6 * n)))] → some (vl, zc1, zm1) = some S1 → W p l e room_1 s m args below meth c H1 locs1 (cells + 3) (slots + 18) Q (F0 m 2616 ls1 [])) : W p l e room_1 s m args below meth c H locs cells slots Q (F0 m 2047 ls []) := by
  have hbA : ¬ lx_A s b := Nat.not_le.mpr hbl
  generalize e1 : xs (6 * n + 1) = x1 at hq
  generalize e2 : xs (6 * n + 2) = x2 at hq
  generalize e3 : xs (6 * n + 3) = x3 at hq
  generalize e4 : xs (6 * n + 4) = x4 at hq
  generalize e5 : xs (6 * n + 5) = x5 at hq
  unfold lst_closure at hq
  refine lv_aload_n hx hb dz_2047 rfl (lv_at hl 1 rfl) ?_
  refine lv_aload_n hx hb dz_2048 rfl (lv_at hl 0 rfl) ?_
  refine lv_iload hx hb dz_2049 (lv_at hl 4 rfl) ?_
  refine lv_iconst (v := 1) hx hb dz_2051 (by decide) ?_
  refine lv_iadd hx hb dz_2052 ?_
  refine ow_topi (y := nI (6 * n + 1)) (nI_add (6 * n) 1) ?_
  refine va_sld hx hb hX hbl hbA hM.2.2.2.2.2 (vp_in_nI (n := 6 * n + 1) (N := L) (by omega) (by omega)) dz_2053 ?_
  refine ow_topi (y := x1) ((congrArg xs (nI_clamp (by omega))).trans e1) ?_
  refine lv_aload_n hx hb dz_2054 rfl (lv_at hl 3 rfl) ?_
  obtain ⟨v2, zc1, hcq, hq⟩ := tw_cl1 hq
  refine lx_wrap hM (vx_runSX (As := [.ref (u 0), .int x1, .ref (u 52001)]) (rest := []) ⟨hx, hb, hml, hown, hts⟩ (kl_L_closure l D q vl u hM.2.2.1.1 hG.1 sa K 0 x1 (by unfold cw_X11 ci_X11; exact List.mem_singleton.mpr rfl) zc zc1 v2 hcq) (vx_cwSW 3 hts (lx_gS (lx_all wLL_good rfl) (lx_mem hL1 (hZ _ zq_221)) (hZ _ zq_222) (hZ _ zq_223) (hZ _ zq_3) rfl rfl rfl) rfl rfl rfl (by decide +kernel) ⟨(Nat.le_of_ble_eq_true rfl), (Nat.le_of_ble_eq_true rfl)⟩) (lx_preL hG hM) rfl rfl hl.1 rfl (lv_room (Nat.le_of_ble_eq_true rfl)) dz_2055 ⟨(by show _ ≤ 600002; omega), (by show _ ≤ 7302232; omega)⟩) (fun H locs hM => ?_)
  refine lv_istore (lv' := [(5, .int v2), (0, .ref b), (1, .ref (u 0)), (2, .ref (w 0)), (3, .ref (u 52001)), (4, .int (nI (6 * n)))]) hx hb dz_2058 hl (by decide) rfl (fun ls hl => ?_)
  refine lv_aload_n hx hb dz_2060 rfl (lv_at hl 3 rfl) ?_
  refine lv_aload_n hx hb dz_2061 rfl (lv_at hl 1 rfl) ?_
  refine lv_iload hx hb dz_2062 (lv_at hl 5 rfl) ?_
  refine lv_iconst (v := 1) hx hb dz_2064 (by decide) ?_
  refine lv_iadd hx hb dz_2065 ?_
  refine ow_topi (y := nI (6 * n + 1)) (nI_add (6 * n) 1) ?_
  refine va_sld hx hb hX hbl hbA hM.2.2.2.2.2 (vp_in_nI (n := 6 * n + 1) (N := L) (by omega) (by omega)) dz_2066 ?_
  refine ow_topi (y := x1) ((congrArg xs (nI_clamp (by omega))).trans e1) ?_
  obtain ⟨v4, zm3, hcq, hq⟩ := tw_cl1 hq
  refine lx_refi hM (va_runV (As := [.int x1]) (rest := []) ⟨hx, hb, hml, hown, hts⟩ (km_X13_closure l D q5 w hM.2.2.2.1.1 K x1 zm zm3 v4 hcq) (cwV 1 hts (lx_gV (lx_all wM_good rfl) (lx_mem hM1 (hZ _ zq_224)) (hZ _ zq_225) (hZ _ zq_226) (hZ _ zq_227) (hZ _ zq_8) rfl rfl rfl rfl) rfl rfl rfl cd_X13_closure ⟨(Nat.le_of_ble_eq_true rfl), (Nat.le_of_ble_eq_true rfl)⟩) (lx_preM hG hM) rfl rfl hl.1 rfl (lv_room (Nat.le_of_ble_eq_true rfl)) dz_2067 ⟨(by show _ ≤ 600002; omega), (by show _ ≤ 7302232; omega)⟩) (fun H locs hM => ?_)
  refine lv_istore (lv' := [(6, .int v4), (5, .int v2), (0, .ref b), (1, .ref (u 0)), (2, .ref (w 0)), (3, .ref (u 52001)), (4, .int (nI (6 * n)))]) hx hb dz_2070 hl (by decide) rfl (fun ls hl => ?_)
  refine lv_aload_n hx hb dz_2072 rfl (lv_at hl 4 rfl) ?_
  obtain ⟨v6, zm5, hcq, hq⟩ := tw_cl1 hq
  refine lx_refi hM (va_runV (As := []) (rest := []) ⟨hx, hb, hml, hown, hts⟩ (km_X13_thrown l D q5 w hM.2.2.2.1.1 K zm3 zm5 v6 hcq) (cwV 0 hts (lx_gV (lx_all wM_good rfl) (lx_mem hM1 (hZ _ zq_9)) (hZ _ zq_10) (hZ _ zq_11) (hZ _ zq_12) (hZ _ zq_8) rfl rfl rfl rfl) rfl rfl rfl cd_X13_thrown ⟨(Nat.le_of_ble_eq_true rfl), (Nat.le_of_ble_eq_true rfl)⟩) (lx_preM hG hM) rfl rfl hl.1 rfl (lv_room (Nat.le_of_ble_eq_true rfl)) dz_2073 ⟨(by show _ ≤ 600002; omega), (by show _ ≤ 7302232; omega)⟩) (fun H locs hM => ?_)
  refine lv_iload hx hb dz_2076 (lv_at hl 1 rfl) ?_
  refine lv_icmp_eq (tgt := 2083) hx hb dz_2078 (by decide) (fun hc9 => ?_) (fun hc9 => ?_)
  · have hq := tw_it hq hc9
    refine lv_iload hx hb dz_2083 (lv_at hl 1 rfl) ?_
    refine lv_if_ne (tgt := 2100) hx hb dz_2085 (by decide) (fun hc9 => ?_) (fun hc9 => ?_)
    · have hq := tw_if hq hc9
      refine lv_goto (tgt := 2616) hx hb dz_2100 (by decide) ?_
      exact kk _ _ H locs ls hM (lv_sub hl [2, 3, 4, 5, 6] rfl) hq
    · have hq := tw_it hq hc9
      refine lv_aload_n hx hb dz_2088 rfl (lv_at hl 5 rfl) ?_
      refine lv_iconst (v := 0) hx hb dz_2089 (by decide) ?_
      refine uw_lald (A := lx_A s) (H0 := s.heap) cX_ok hx hb hG.2.1 ⟨hM.1, hM.2.2.2.2.2⟩ cr_out hq dz_2090 (fun v7 hq => ?_)
      refine lv_iload hx hb dz_2091 (lv_at hl 0 rfl) ?_
      refine lv_i2l hx hb dz_2093 rfl ?_
      refine W.lcmp hx hb dz_2094 ?_
      refine lv_if_eq (tgt := 2100) hx hb dz_2095 (by decide) (fun hc9 => ?_) (fun hc9 => ?_)
      · have hq := tw_it hq hc9
        refine lv_goto (tgt := 2616) hx hb dz_2100 (by decide) ?_
        exact kk _ _ H locs ls hM (lv_sub hl [2, 3, 4, 5, 6] rfl) hq
      · have hq := tw_if hq hc9
        refine lv_iconst (v := 0) hx hb dz_2098 (by decide) ?_
        exact cw_no hq
  · have hq := tw_if hq hc9
    refine lv_iconst (v := 0) hx hb dz_2081 (by decide) ?_
    exact cw_no hq
theorem dz_2103 : decode cL_law 2103 = .ok (.aload_n 1, 1) := by decide +kernel
theorem dz_2104 : decode cL_law 2104 = .ok (.aload_n 0, 1) := by decide +kernel
theorem dz_2105 : decode cL_law 2105 = .ok (.iload 4, 2) := by decide +kernel
theorem dz_2107 : decode cL_law 2107 = .ok (.iconst 1, 1) := by decide +kernel
theorem dz_2108 : decode cL_law 2108 = .ok (.iadd, 1) := by decide +kernel
theorem dz_2109 : decode cL_law 2109 = .ok (.iaload, 1) := by decide +kernel
theorem dz_2110 : decode cL_law 2110 = .ok (.aload_n 0, 1) := by decide +kernel
theorem dz_2111 : decode cL_law 2111 = .ok (.iload 4, 2) := by decide +kernel
theorem dz_2113 : decode cL_law 2113 = .ok (.iconst 2, 1) := by decide +kernel
theorem dz_2114 : decode cL_law 2114 = .ok (.iadd, 1) := by decide +kernel
theorem dz_2115 : decode cL_law 2115 = .ok (.iaload, 1) := by decide +kernel
theorem dz_2116 : decode cL_law 2116 = .ok (.aload_n 3, 1) := by decide +kernel
theorem dz_2117 : decode cL_law 2117 = .ok (.invokestatic 242, 3) := by decide +kernel
theorem dz_2120 : decode cL_law 2120 = .ok (.istore 5, 2) := by decide +kernel
theorem dz_2122 : decode cL_law 2122 = .ok (.aload_n 2, 1) := by decide +kernel
theorem dz_2123 : decode cL_law 2123 = .ok (.aload_n 0, 1) := by decide +kernel
theorem dz_2124 : decode cL_law 2124 = .ok (.iload 4, 2) := by decide +kernel
theorem dz_2126 : decode cL_law 2126 = .ok (.iconst 1, 1) := by decide +kernel
theorem dz_2127 : decode cL_law 2127 = .ok (.iadd, 1) := by decide +kernel
theorem dz_2128 : decode cL_law 2128 = .ok (.iaload, 1) := by decide +kernel
theorem dz_2129 : decode cL_law 2129 = .ok (.aload_n 0, 1) := by decide +kernel
theorem dz_2130 : decode cL_law 2130 = .ok (.iload 4, 2) := by decide +kernel
theorem dz_2132 : decode cL_law 2132 = .ok (.iconst 2, 1) := by decide +kernel
theorem dz_2133 : decode cL_law 2133 = .ok (.iadd, 1) := by decide +kernel
theorem dz_2134 : decode cL_law 2134 = .ok (.iaload, 1) := by decide +kernel
theorem dz_2135 : decode cL_law 2135 = .ok (.invokevirtual 244, 3) := by decide +kernel
theorem dz_2138 : decode cL_law 2138 = .ok (.istore 6, 2) := by decide +kernel
theorem dz_2140 : decode cL_law 2140 = .ok (.aload_n 2, 1) := by decide +kernel
theorem dz_2141 : decode cL_law 2141 = .ok (.invokevirtual 137, 3) := by decide +kernel
theorem dz_2144 : decode cL_law 2144 = .ok (.iload 5, 2) := by decide +kernel
theorem dz_2146 : decode cL_law 2146 = .ok (.if_icmp .eq 5, 3) := by decide +kernel
theorem dz_2149 : decode cL_law 2149 = .ok (.iconst 0, 1) := by decide +kernel
theorem dz_2150 : decode cL_law 2150 = .ok (.ireturn, 1) := by decide +kernel
theorem dz_2151 : decode cL_law 2151 = .ok (.iload 5, 2) := by decide +kernel
theorem dz_2153 : decode cL_law 2153 = .ok (.ifCond .ne 15, 3) := by decide +kernel
theorem dz_2156 : decode cL_law 2156 = .ok (.aload_n 3, 1) := by decide +kernel
theorem dz_2157 : decode cL_law 2157 = .ok (.iconst 0, 1) := by decide +kernel
theorem dz_2158 : decode cL_law 2158 = .ok (.laload, 1) := by decide +kernel
theorem dz_2159 : decode cL_law 2159 = .ok (.iload 6, 2) := by decide +kernel
theorem dz_2161 : decode cL_law 2161 = .ok (.i2l, 1) := by decide +kernel
theorem dz_2162 : decode cL_law 2162 = .ok (.lcmp, 1) := by decide +kernel
theorem dz_2163 : decode cL_law 2163 = .ok (.ifCond .eq 5, 3) := by decide +kernel
theorem dz_2166 : decode cL_law 2166 = .ok (.iconst 0, 1) := by decide +kernel
theorem dz_2167 : decode cL_law 2167 = .ok (.ireturn, 1) := by decide +kernel
theorem dz_2168 : decode cL_law 2168 = .ok (.goto 448, 3) := by decide +kernel
def lst_product (vl : Nat → Nat) (K : Nat) (x1 : Int32) (x2 : Int32) (x3 : Int32) (x4 : Int32) (x5 : Int32) (zc zm : ow_MS) : Option ow_LwS :=
 cs1 (le_L_product vl K 0 x1 x2 zc) fun v2 zc1 => cs1 (qe_X13_product K x1 x2 zm) fun v4 zm3 => cs1 (qe_X13_thrown K zm3) fun v6 zm5 => (if v6 = v2 then (if v2 = 0 then crJ (cX vl) zc1 52001 0 fun v7 => (if (lg_cmp v7 v4.toInt64) = 0 then some (vl, zc1, zm5)
 else none)
 else some (vl, zc1, zm5))
 else none)
set_option maxHeartbeats 4000000 in
set_option maxRecDepth 100000 in
theorem lxc_product {p : Program} {l : Launch} {e : Env} {s : State} {m : MethodId} {args : Array Value} {below : List Frame} {meth : Method} {c : Code} {b L K n : Nat} {xs : Nat → Int32} {D : va_G} {q : Nat → ClassId} {q5 : ow_Q5} {vl u w sa : Nat → Nat} {zc zm : ow_MS} {S1 : ow_LwS} {Ts : List Cond} {Q : State → Prop} {H : Heap} {locs : List Loc} {ls : Array Slot} {cells slots : Nat} (hx : p.tables.exec = Jvm.exec) (hb : c.code = cL_law) (hml : c.maxLocals = 8) (hown : s.vm.findClass RL = some m.cls) (hts : ∀ w ∈ Ts, w.before args s = true) (hX : va_X b L xs s s.heap) (hbl : b < s.heap.size) (hZ : ∀ w ∈ wZ, w ∈ Ts) (hL1 : ∀ w ∈ wLL, w ∈ Ts) (hC1 : ∀ w ∈ wC, w ∈ Ts) (hM1 : ∀ w ∈ wM, w ∈ Ts) (hG : lx_G l s D q q5 sa) (hLn : L ≤ 3072) (hn : 6 * n + 6 ≤ L) (hq : lst_product vl K (xs (6 * n + 1)) (xs (6 * n + 2)) (xs (6 * n + 3)) (xs (6 * n + 4)) (xs (6 * n + 5)) zc zm = some S1) (hM : lx_M D q q5 s vl u w zc zm H locs) (hl : lv_has ls 8 [(0, .ref b), (1, .ref (u 0)), (2, .ref (w 0)), (3, .ref (u 52001)), (4, .int (nI (6 * n)))]) (hc : cells + 4 ≤ 600002) (hs : slots + 24 ≤ 7302232) (kk : ∀ (zc1 zm1 : ow_MS) (H1 : Heap) (locs1 : List Loc) (ls1 : Array Slot), lx_M D q q5 s vl u w zc1 zm1 H1 locs1 → lv_has ls1 8 [(0, .ref b), (1, .ref (u 0)), (2, .ref (w 0)), (3, .ref (u 52001)), (4, .int (nI (6 * n)))] → some (vl, zc1, zm1) = some S1 → W p l e room_1 s m args below meth c H1 locs1 (cells + 4) (slots + 24) Q (F0 m 2616 ls1 [])) : W p l e room_1 s m args below meth c H locs cells slots Q (F0 m 2103 ls []) := by
  have hbA : ¬ lx_A s b := Nat.not_le.mpr hbl
  generalize e1 : xs (6 * n + 1) = x1 at hq
  generalize e2 : xs (6 * n + 2) = x2 at hq
  generalize e3 : xs (6 * n + 3) = x3 at hq
  generalize e4 : xs (6 * n + 4) = x4 at hq
  generalize e5 : xs (6 * n + 5) = x5 at hq
  unfold lst_product at hq
  refine lv_aload_n hx hb dz_2103 rfl (lv_at hl 1 rfl) ?_
  refine lv_aload_n hx hb dz_2104 rfl (lv_at hl 0 rfl) ?_
  refine lv_iload hx hb dz_2105 (lv_at hl 4 rfl) ?_
  refine lv_iconst (v := 1) hx hb dz_2107 (by decide) ?_
  refine lv_iadd hx hb dz_2108 ?_
  refine ow_topi (y := nI (6 * n + 1)) (nI_add (6 * n) 1) ?_
  refine va_sld hx hb hX hbl hbA hM.2.2.2.2.2 (vp_in_nI (n := 6 * n + 1) (N := L) (by omega) (by omega)) dz_2109 ?_
  refine ow_topi (y := x1) ((congrArg xs (nI_clamp (by omega))).trans e1) ?_
  refine lv_aload_n hx hb dz_2110 rfl (lv_at hl 0 rfl) ?_
  refine lv_iload hx hb dz_2111 (lv_at hl 4 rfl) ?_
  refine lv_iconst (v := 2) hx hb dz_2113 (by decide) ?_
  refine lv_iadd hx hb dz_2114 ?_
  refine ow_topi (y := nI (6 * n + 2)) (nI_add (6 * n) 2) ?_
  refine va_sld hx hb hX hbl hbA hM.2.2.2.2.2 (vp_in_nI (n := 6 * n + 2) (N := L) (by omega) (by omega)) dz_2115 ?_
  refine ow_topi (y := x2) ((congrArg xs (nI_clamp (by omega))).trans e2) ?_
  refine lv_aload_n hx hb dz_2116 rfl (lv_at hl 3 rfl) ?_
  obtain ⟨v2, zc1, hcq, hq⟩ := tw_cl1 hq
  refine lx_wrap hM (vx_runSX (As := [.ref (u 0), .int x1, .int x2, .ref (u 52001)]) (rest := []) ⟨hx, hb, hml, hown, hts⟩ (kl_L_product l D q vl u hM.2.2.1.1 hG.1 sa K 0 x1 x2 (by unfold cw_X11 ci_X11; exact List.mem_singleton.mpr rfl) zc zc1 v2 hcq) (vx_cwSW 4 hts (lx_gS (lx_all wLL_good rfl) (lx_mem hL1 (hZ _ zq_228)) (hZ _ zq_229) (hZ _ zq_230) (hZ _ zq_3) rfl rfl rfl) rfl rfl rfl (by decide +kernel) ⟨(Nat.le_of_ble_eq_true rfl), (Nat.le_of_ble_eq_true rfl)⟩) (lx_preL hG hM) rfl rfl hl.1 rfl (lv_room (Nat.le_of_ble_eq_true rfl)) dz_2117 ⟨(by show _ ≤ 600002; omega), (by show _ ≤ 7302232; omega)⟩) (fun H locs hM => ?_)
  refine lv_istore (lv' := [(5, .int v2), (0, .ref b), (1, .ref (u 0)), (2, .ref (w 0)), (3, .ref (u 52001)), (4, .int (nI (6 * n)))]) hx hb dz_2120 hl (by decide) rfl (fun ls hl => ?_)
  refine lv_aload_n hx hb dz_2122 rfl (lv_at hl 3 rfl) ?_
  refine lv_aload_n hx hb dz_2123 rfl (lv_at hl 1 rfl) ?_
  refine lv_iload hx hb dz_2124 (lv_at hl 5 rfl) ?_
  refine lv_iconst (v := 1) hx hb dz_2126 (by decide) ?_
  refine lv_iadd hx hb dz_2127 ?_
  refine ow_topi (y := nI (6 * n + 1)) (nI_add (6 * n) 1) ?_
  refine va_sld hx hb hX hbl hbA hM.2.2.2.2.2 (vp_in_nI (n := 6 * n + 1) (N := L) (by omega) (by omega)) dz_2128 ?_
  refine ow_topi (y := x1) ((congrArg xs (nI_clamp (by omega))).trans e1) ?_
  refine lv_aload_n hx hb dz_2129 rfl (lv_at hl 1 rfl) ?_
  refine lv_iload hx hb dz_2130 (lv_at hl 5 rfl) ?_
  refine lv_iconst (v := 2) hx hb dz_2132 (by decide) ?_
  refine lv_iadd hx hb dz_2133 ?_
  refine ow_topi (y := nI (6 * n + 2)) (nI_add (6 * n) 2) ?_
  refine va_sld hx hb hX hbl hbA hM.2.2.2.2.2 (vp_in_nI (n := 6 * n + 2) (N := L) (by omega) (by omega)) dz_2134 ?_
  refine ow_topi (y := x2) ((congrArg xs (nI_clamp (by omega))).trans e2) ?_
  obtain ⟨v4, zm3, hcq, hq⟩ := tw_cl1 hq
  refine lx_refi hM (va_runV (As := [.int x1, .int x2]) (rest := []) ⟨hx, hb, hml, hown, hts⟩ (km_X13_product l D q5 w hM.2.2.2.1.1 K x1 x2 zm zm3 v4 hcq) (cwV 2 hts (lx_gV (lx_all wM_good rfl) (lx_mem hM1 (hZ _ zq_231)) (hZ _ zq_232) (hZ _ zq_233) (hZ _ zq_234) (hZ _ zq_8) rfl rfl rfl rfl) rfl rfl rfl cd_X13_product ⟨(Nat.le_of_ble_eq_true rfl), (Nat.le_of_ble_eq_true rfl)⟩) (lx_preM hG hM) rfl rfl hl.1 rfl (lv_room (Nat.le_of_ble_eq_true rfl)) dz_2135 ⟨(by show _ ≤ 600002; omega), (by show _ ≤ 7302232; omega)⟩) (fun H locs hM => ?_)
  refine lv_istore (lv' := [(6, .int v4), (5, .int v2), (0, .ref b), (1, .ref (u 0)), (2, .ref (w 0)), (3, .ref (u 52001)), (4, .int (nI (6 * n)))]) hx hb dz_2138 hl (by decide) rfl (fun ls hl => ?_)
  refine lv_aload_n hx hb dz_2140 rfl (lv_at hl 4 rfl) ?_
  obtain ⟨v6, zm5, hcq, hq⟩ := tw_cl1 hq
  refine lx_refi hM (va_runV (As := []) (rest := []) ⟨hx, hb, hml, hown, hts⟩ (km_X13_thrown l D q5 w hM.2.2.2.1.1 K zm3 zm5 v6 hcq) (cwV 0 hts (lx_gV (lx_all wM_good rfl) (lx_mem hM1 (hZ _ zq_9)) (hZ _ zq_10) (hZ _ zq_11) (hZ _ zq_12) (hZ _ zq_8) rfl rfl rfl rfl) rfl rfl rfl cd_X13_thrown ⟨(Nat.le_of_ble_eq_true rfl), (Nat.le_of_ble_eq_true rfl)⟩) (lx_preM hG hM) rfl rfl hl.1 rfl (lv_room (Nat.le_of_ble_eq_true rfl)) dz_2141 ⟨(by show _ ≤ 600002; omega), (by show _ ≤ 7302232; omega)⟩) (fun H locs hM => ?_)
  refine lv_iload hx hb dz_2144 (lv_at hl 1 rfl) ?_
  refine lv_icmp_eq (tgt := 2151) hx hb dz_2146 (by decide) (fun hc9 => ?_) (fun hc9 => ?_)
  · have hq := tw_it hq hc9
    refine lv_iload hx hb dz_2151 (lv_at hl 1 rfl) ?_
    refine lv_if_ne (tgt := 2168) hx hb dz_2153 (by decide) (fun hc9 => ?_) (fun hc9 => ?_)
    · have hq := tw_if hq hc9
      refine lv_goto (tgt := 2616) hx hb dz_2168 (by decide) ?_
      exact kk _ _ H locs ls hM (lv_sub hl [2, 3, 4, 5, 6] rfl) hq
    · have hq := tw_it hq hc9
      refine lv_aload_n hx hb dz_2156 rfl (lv_at hl 5 rfl) ?_
      refine lv_iconst (v := 0) hx hb dz_2157 (by decide) ?_
      refine uw_lald (A := lx_A s) (H0 := s.heap) cX_ok hx hb hG.2.1 ⟨hM.1, hM.2.2.2.2.2⟩ cr_out hq dz_2158 (fun v7 hq => ?_)
      refine lv_iload hx hb dz_2159 (lv_at hl 0 rfl) ?_
      refine lv_i2l hx hb dz_2161 rfl ?_
      refine W.lcmp hx hb dz_2162 ?_
      refine lv_if_eq (tgt := 2168) hx hb dz_2163 (by decide) (fun hc9 => ?_) (fun hc9 => ?_)
      · have hq := tw_it hq hc9
        refine lv_goto (tgt := 2616) hx hb dz_2168 (by decide) ?_
        exact kk _ _ H locs ls hM (lv_sub hl [2, 3, 4, 5, 6] rfl) hq
      · have hq := tw_if hq hc9
        refine lv_iconst (v := 0) hx hb dz_2166 (by decide) ?_
        exact cw_no hq
  · have hq := tw_if hq hc9
    refine lv_iconst (v := 0) hx hb dz_2149 (by decide) ?_
    exact cw_no hq
theorem dz_2171 : decode cL_law 2171 = .ok (.aload_n 1, 1) := by decide +kernel
theorem dz_2172 : decode cL_law 2172 = .ok (.aload_n 0, 1) := by decide +kernel
theorem dz_2173 : decode cL_law 2173 = .ok (.iload 4, 2) := by decide +kernel
theorem dz_2175 : decode cL_law 2175 = .ok (.iconst 1, 1) := by decide +kernel
theorem dz_2176 : decode cL_law 2176 = .ok (.iadd, 1) := by decide +kernel
theorem dz_2177 : decode cL_law 2177 = .ok (.iaload, 1) := by decide +kernel
theorem dz_2178 : decode cL_law 2178 = .ok (.aload_n 3, 1) := by decide +kernel
theorem dz_2179 : decode cL_law 2179 = .ok (.invokestatic 245, 3) := by decide +kernel
theorem dz_2182 : decode cL_law 2182 = .ok (.istore 5, 2) := by decide +kernel
theorem dz_2184 : decode cL_law 2184 = .ok (.aload_n 2, 1) := by decide +kernel
theorem dz_2185 : decode cL_law 2185 = .ok (.aload_n 0, 1) := by decide +kernel
theorem dz_2186 : decode cL_law 2186 = .ok (.iload 4, 2) := by decide +kernel
theorem dz_2188 : decode cL_law 2188 = .ok (.iconst 1, 1) := by decide +kernel
theorem dz_2189 : decode cL_law 2189 = .ok (.iadd, 1) := by decide +kernel
theorem dz_2190 : decode cL_law 2190 = .ok (.iaload, 1) := by decide +kernel
theorem dz_2191 : decode cL_law 2191 = .ok (.invokevirtual 247, 3) := by decide +kernel
theorem dz_2194 : decode cL_law 2194 = .ok (.istore 6, 2) := by decide +kernel
theorem dz_2196 : decode cL_law 2196 = .ok (.aload_n 2, 1) := by decide +kernel
theorem dz_2197 : decode cL_law 2197 = .ok (.invokevirtual 137, 3) := by decide +kernel
theorem dz_2200 : decode cL_law 2200 = .ok (.iload 5, 2) := by decide +kernel
theorem dz_2202 : decode cL_law 2202 = .ok (.if_icmp .eq 5, 3) := by decide +kernel
theorem dz_2205 : decode cL_law 2205 = .ok (.iconst 0, 1) := by decide +kernel
theorem dz_2206 : decode cL_law 2206 = .ok (.ireturn, 1) := by decide +kernel
theorem dz_2207 : decode cL_law 2207 = .ok (.iload 5, 2) := by decide +kernel
theorem dz_2209 : decode cL_law 2209 = .ok (.ifCond .ne 15, 3) := by decide +kernel
theorem dz_2212 : decode cL_law 2212 = .ok (.aload_n 3, 1) := by decide +kernel
theorem dz_2213 : decode cL_law 2213 = .ok (.iconst 0, 1) := by decide +kernel
theorem dz_2214 : decode cL_law 2214 = .ok (.laload, 1) := by decide +kernel
theorem dz_2215 : decode cL_law 2215 = .ok (.iload 6, 2) := by decide +kernel
theorem dz_2217 : decode cL_law 2217 = .ok (.i2l, 1) := by decide +kernel
theorem dz_2218 : decode cL_law 2218 = .ok (.lcmp, 1) := by decide +kernel
theorem dz_2219 : decode cL_law 2219 = .ok (.ifCond .eq 5, 3) := by decide +kernel
theorem dz_2222 : decode cL_law 2222 = .ok (.iconst 0, 1) := by decide +kernel
theorem dz_2223 : decode cL_law 2223 = .ok (.ireturn, 1) := by decide +kernel
theorem dz_2224 : decode cL_law 2224 = .ok (.goto 392, 3) := by decide +kernel
def lst_inverse (vl : Nat → Nat) (K : Nat) (x1 : Int32) (x2 : Int32) (x3 : Int32) (x4 : Int32) (x5 : Int32) (zc zm : ow_MS) : Option ow_LwS :=
 cs1 (le_L_inverse vl K 0 x1 zc) fun v2 zc1 => cs1 (qe_X13_inverse K x1 zm) fun v4 zm3 => cs1 (qe_X13_thrown K zm3) fun v6 zm5 => (if v6 = v2 then (if v2 = 0 then crJ (cX vl) zc1 52001 0 fun v7 => (if (lg_cmp v7 v4.toInt64) = 0 then some (vl, zc1, zm5)
 else none)
 else some (vl, zc1, zm5))
 else none)
set_option maxHeartbeats 4000000 in
set_option maxRecDepth 100000 in
theorem lxc_inverse {p : Program} {l : Launch} {e : Env} {s : State} {m : MethodId} {args : Array Value} {below : List Frame} {meth : Method} {c : Code} {b L K n : Nat} {xs : Nat → Int32} {D : va_G} {q : Nat → ClassId} {q5 : ow_Q5} {vl u w sa : Nat → Nat} {zc zm : ow_MS} {S1 : ow_LwS} {Ts : List Cond} {Q : State → Prop} {H : Heap} {locs : List Loc} {ls : Array Slot} {cells slots : Nat} (hx : p.tables.exec = Jvm.exec) (hb : c.code = cL_law) (hml : c.maxLocals = 8) (hown : s.vm.findClass RL = some m.cls) (hts : ∀ w ∈ Ts, w.before args s = true) (hX : va_X b L xs s s.heap) (hbl : b < s.heap.size) (hZ : ∀ w ∈ wZ, w ∈ Ts) (hL1 : ∀ w ∈ wLL, w ∈ Ts) (hC1 : ∀ w ∈ wC, w ∈ Ts) (hM1 : ∀ w ∈ wM, w ∈ Ts) (hG : lx_G l s D q q5 sa) (hLn : L ≤ 3072) (hn : 6 * n + 6 ≤ L) (hq : lst_inverse vl K (xs (6 * n + 1)) (xs (6 * n + 2)) (xs (6 * n + 3)) (xs (6 * n + 4)) (xs (6 * n + 5)) zc zm = some S1) (hM : lx_M D q q5 s vl u w zc zm H locs) (hl : lv_has ls 8 [(0, .ref b), (1, .ref (u 0)), (2, .ref (w 0)), (3, .ref (u 52001)), (4, .int (nI (6 * n)))]) (hc : cells + 2 ≤ 600002) (hs : slots + 12 ≤ 7302232) (kk : ∀ (zc1 zm1 : ow_MS) (H1 : Heap) (locs1 : List Loc) (ls1 : Array Slot), lx_M D q q5 s vl u w zc1 zm1 H1 locs1 → lv_has ls1 8 [(0, .ref b), (1, .ref (u 0)), (2, .ref (w 0)), (3, .ref (u 52001)), (4, .int (nI (6 * n)))] → some (vl, zc1, zm1) = some S1 → W p l e room_1 s m args below meth c H1 locs1 (cells + 2) (slots + 12) Q (F0 m 2616 ls1 [])) : W p l e room_1 s m args below meth c H locs cells slots Q (F0 m 2171 ls []) := by
  have hbA : ¬ lx_A s b := Nat.not_le.mpr hbl
  generalize e1 : xs (6 * n + 1) = x1 at hq
  generalize e2 : xs (6 * n + 2) = x2 at hq
  generalize e3 : xs (6 * n + 3) = x3 at hq
  generalize e4 : xs (6 * n + 4) = x4 at hq
  generalize e5 : xs (6 * n + 5) = x5 at hq
  unfold lst_inverse at hq
  refine lv_aload_n hx hb dz_2171 rfl (lv_at hl 1 rfl) ?_
  refine lv_aload_n hx hb dz_2172 rfl (lv_at hl 0 rfl) ?_
  refine lv_iload hx hb dz_2173 (lv_at hl 4 rfl) ?_
  refine lv_iconst (v := 1) hx hb dz_2175 (by decide) ?_
  refine lv_iadd hx hb dz_2176 ?_
  refine ow_topi (y := nI (6 * n + 1)) (nI_add (6 * n) 1) ?_
  refine va_sld hx hb hX hbl hbA hM.2.2.2.2.2 (vp_in_nI (n := 6 * n + 1) (N := L) (by omega) (by omega)) dz_2177 ?_
  refine ow_topi (y := x1) ((congrArg xs (nI_clamp (by omega))).trans e1) ?_
  refine lv_aload_n hx hb dz_2178 rfl (lv_at hl 3 rfl) ?_
  obtain ⟨v2, zc1, hcq, hq⟩ := tw_cl1 hq
  refine lx_wrap hM (vx_runSX (As := [.ref (u 0), .int x1, .ref (u 52001)]) (rest := []) ⟨hx, hb, hml, hown, hts⟩ (kl_L_inverse l D q vl u hM.2.2.1.1 hG.1 sa K 0 x1 (by unfold cw_X11 ci_X11; exact List.mem_singleton.mpr rfl) zc zc1 v2 hcq) (vx_cwSW 3 hts (lx_gS (lx_all wLL_good rfl) (lx_mem hL1 (hZ _ zq_235)) (hZ _ zq_236) (hZ _ zq_237) (hZ _ zq_3) rfl rfl rfl) rfl rfl rfl (by decide +kernel) ⟨(Nat.le_of_ble_eq_true rfl), (Nat.le_of_ble_eq_true rfl)⟩) (lx_preL hG hM) rfl rfl hl.1 rfl (lv_room (Nat.le_of_ble_eq_true rfl)) dz_2179 ⟨(by show _ ≤ 600002; omega), (by show _ ≤ 7302232; omega)⟩) (fun H locs hM => ?_)
  refine lv_istore (lv' := [(5, .int v2), (0, .ref b), (1, .ref (u 0)), (2, .ref (w 0)), (3, .ref (u 52001)), (4, .int (nI (6 * n)))]) hx hb dz_2182 hl (by decide) rfl (fun ls hl => ?_)
  refine lv_aload_n hx hb dz_2184 rfl (lv_at hl 3 rfl) ?_
  refine lv_aload_n hx hb dz_2185 rfl (lv_at hl 1 rfl) ?_
  refine lv_iload hx hb dz_2186 (lv_at hl 5 rfl) ?_
  refine lv_iconst (v := 1) hx hb dz_2188 (by decide) ?_
  refine lv_iadd hx hb dz_2189 ?_
  refine ow_topi (y := nI (6 * n + 1)) (nI_add (6 * n) 1) ?_
  refine va_sld hx hb hX hbl hbA hM.2.2.2.2.2 (vp_in_nI (n := 6 * n + 1) (N := L) (by omega) (by omega)) dz_2190 ?_
  refine ow_topi (y := x1) ((congrArg xs (nI_clamp (by omega))).trans e1) ?_
  obtain ⟨v4, zm3, hcq, hq⟩ := tw_cl1 hq
  refine lx_refi hM (va_runV (As := [.int x1]) (rest := []) ⟨hx, hb, hml, hown, hts⟩ (km_X13_inverse l D q5 w hM.2.2.2.1.1 K x1 zm zm3 v4 hcq) (cwV 1 hts (lx_gV (lx_all wM_good rfl) (lx_mem hM1 (hZ _ zq_238)) (hZ _ zq_239) (hZ _ zq_240) (hZ _ zq_241) (hZ _ zq_8) rfl rfl rfl rfl) rfl rfl rfl cd_X13_inverse ⟨(Nat.le_of_ble_eq_true rfl), (Nat.le_of_ble_eq_true rfl)⟩) (lx_preM hG hM) rfl rfl hl.1 rfl (lv_room (Nat.le_of_ble_eq_true rfl)) dz_2191 ⟨(by show _ ≤ 600002; omega), (by show _ ≤ 7302232; omega)⟩) (fun H locs hM => ?_)
  refine lv_istore (lv' := [(6, .int v4), (5, .int v2), (0, .ref b), (1, .ref (u 0)), (2, .ref (w 0)), (3, .ref (u 52001)), (4, .int (nI (6 * n)))]) hx hb dz_2194 hl (by decide) rfl (fun ls hl => ?_)
  refine lv_aload_n hx hb dz_2196 rfl (lv_at hl 4 rfl) ?_
  obtain ⟨v6, zm5, hcq, hq⟩ := tw_cl1 hq
  refine lx_refi hM (va_runV (As := []) (rest := []) ⟨hx, hb, hml, hown, hts⟩ (km_X13_thrown l D q5 w hM.2.2.2.1.1 K zm3 zm5 v6 hcq) (cwV 0 hts (lx_gV (lx_all wM_good rfl) (lx_mem hM1 (hZ _ zq_9)) (hZ _ zq_10) (hZ _ zq_11) (hZ _ zq_12) (hZ _ zq_8) rfl rfl rfl rfl) rfl rfl rfl cd_X13_thrown ⟨(Nat.le_of_ble_eq_true rfl), (Nat.le_of_ble_eq_true rfl)⟩) (lx_preM hG hM) rfl rfl hl.1 rfl (lv_room (Nat.le_of_ble_eq_true rfl)) dz_2197 ⟨(by show _ ≤ 600002; omega), (by show _ ≤ 7302232; omega)⟩) (fun H locs hM => ?_)
  refine lv_iload hx hb dz_2200 (lv_at hl 1 rfl) ?_
  refine lv_icmp_eq (tgt := 2207) hx hb dz_2202 (by decide) (fun hc9 => ?_) (fun hc9 => ?_)
  · have hq := tw_it hq hc9
    refine lv_iload hx hb dz_2207 (lv_at hl 1 rfl) ?_
    refine lv_if_ne (tgt := 2224) hx hb dz_2209 (by decide) (fun hc9 => ?_) (fun hc9 => ?_)
    · have hq := tw_if hq hc9
      refine lv_goto (tgt := 2616) hx hb dz_2224 (by decide) ?_
      exact kk _ _ H locs ls hM (lv_sub hl [2, 3, 4, 5, 6] rfl) hq
    · have hq := tw_it hq hc9
      refine lv_aload_n hx hb dz_2212 rfl (lv_at hl 5 rfl) ?_
      refine lv_iconst (v := 0) hx hb dz_2213 (by decide) ?_
      refine uw_lald (A := lx_A s) (H0 := s.heap) cX_ok hx hb hG.2.1 ⟨hM.1, hM.2.2.2.2.2⟩ cr_out hq dz_2214 (fun v7 hq => ?_)
      refine lv_iload hx hb dz_2215 (lv_at hl 0 rfl) ?_
      refine lv_i2l hx hb dz_2217 rfl ?_
      refine W.lcmp hx hb dz_2218 ?_
      refine lv_if_eq (tgt := 2224) hx hb dz_2219 (by decide) (fun hc9 => ?_) (fun hc9 => ?_)
      · have hq := tw_it hq hc9
        refine lv_goto (tgt := 2616) hx hb dz_2224 (by decide) ?_
        exact kk _ _ H locs ls hM (lv_sub hl [2, 3, 4, 5, 6] rfl) hq
      · have hq := tw_if hq hc9
        refine lv_iconst (v := 0) hx hb dz_2222 (by decide) ?_
        exact cw_no hq
  · have hq := tw_if hq hc9
    refine lv_iconst (v := 0) hx hb dz_2205 (by decide) ?_
    exact cw_no hq
theorem dz_2227 : decode cL_law 2227 = .ok (.aload_n 1, 1) := by decide +kernel
theorem dz_2228 : decode cL_law 2228 = .ok (.aload_n 0, 1) := by decide +kernel
theorem dz_2229 : decode cL_law 2229 = .ok (.iload 4, 2) := by decide +kernel
theorem dz_2231 : decode cL_law 2231 = .ok (.iconst 1, 1) := by decide +kernel
theorem dz_2232 : decode cL_law 2232 = .ok (.iadd, 1) := by decide +kernel
theorem dz_2233 : decode cL_law 2233 = .ok (.iaload, 1) := by decide +kernel
theorem dz_2234 : decode cL_law 2234 = .ok (.aload_n 0, 1) := by decide +kernel
theorem dz_2235 : decode cL_law 2235 = .ok (.iload 4, 2) := by decide +kernel
theorem dz_2237 : decode cL_law 2237 = .ok (.iconst 2, 1) := by decide +kernel
theorem dz_2238 : decode cL_law 2238 = .ok (.iadd, 1) := by decide +kernel
theorem dz_2239 : decode cL_law 2239 = .ok (.iaload, 1) := by decide +kernel
theorem dz_2240 : decode cL_law 2240 = .ok (.aload_n 3, 1) := by decide +kernel
theorem dz_2241 : decode cL_law 2241 = .ok (.invokestatic 248, 3) := by decide +kernel
theorem dz_2244 : decode cL_law 2244 = .ok (.istore 5, 2) := by decide +kernel
theorem dz_2246 : decode cL_law 2246 = .ok (.aload_n 2, 1) := by decide +kernel
theorem dz_2247 : decode cL_law 2247 = .ok (.aload_n 0, 1) := by decide +kernel
theorem dz_2248 : decode cL_law 2248 = .ok (.iload 4, 2) := by decide +kernel
theorem dz_2250 : decode cL_law 2250 = .ok (.iconst 1, 1) := by decide +kernel
theorem dz_2251 : decode cL_law 2251 = .ok (.iadd, 1) := by decide +kernel
theorem dz_2252 : decode cL_law 2252 = .ok (.iaload, 1) := by decide +kernel
theorem dz_2253 : decode cL_law 2253 = .ok (.aload_n 0, 1) := by decide +kernel
theorem dz_2254 : decode cL_law 2254 = .ok (.iload 4, 2) := by decide +kernel
theorem dz_2256 : decode cL_law 2256 = .ok (.iconst 2, 1) := by decide +kernel
theorem dz_2257 : decode cL_law 2257 = .ok (.iadd, 1) := by decide +kernel
theorem dz_2258 : decode cL_law 2258 = .ok (.iaload, 1) := by decide +kernel
theorem dz_2259 : decode cL_law 2259 = .ok (.invokevirtual 250, 3) := by decide +kernel
theorem dz_2262 : decode cL_law 2262 = .ok (.istore 6, 2) := by decide +kernel
theorem dz_2264 : decode cL_law 2264 = .ok (.aload_n 2, 1) := by decide +kernel
theorem dz_2265 : decode cL_law 2265 = .ok (.invokevirtual 137, 3) := by decide +kernel
theorem dz_2268 : decode cL_law 2268 = .ok (.iload 5, 2) := by decide +kernel
theorem dz_2270 : decode cL_law 2270 = .ok (.if_icmp .eq 5, 3) := by decide +kernel
theorem dz_2273 : decode cL_law 2273 = .ok (.iconst 0, 1) := by decide +kernel
theorem dz_2274 : decode cL_law 2274 = .ok (.ireturn, 1) := by decide +kernel
theorem dz_2275 : decode cL_law 2275 = .ok (.iload 5, 2) := by decide +kernel
theorem dz_2277 : decode cL_law 2277 = .ok (.ifCond .ne 15, 3) := by decide +kernel
theorem dz_2280 : decode cL_law 2280 = .ok (.aload_n 3, 1) := by decide +kernel
theorem dz_2281 : decode cL_law 2281 = .ok (.iconst 0, 1) := by decide +kernel
theorem dz_2282 : decode cL_law 2282 = .ok (.laload, 1) := by decide +kernel
theorem dz_2283 : decode cL_law 2283 = .ok (.iload 6, 2) := by decide +kernel
theorem dz_2285 : decode cL_law 2285 = .ok (.i2l, 1) := by decide +kernel
theorem dz_2286 : decode cL_law 2286 = .ok (.lcmp, 1) := by decide +kernel
theorem dz_2287 : decode cL_law 2287 = .ok (.ifCond .eq 5, 3) := by decide +kernel
theorem dz_2290 : decode cL_law 2290 = .ok (.iconst 0, 1) := by decide +kernel
theorem dz_2291 : decode cL_law 2291 = .ok (.ireturn, 1) := by decide +kernel
theorem dz_2292 : decode cL_law 2292 = .ok (.goto 324, 3) := by decide +kernel
def lst_normal (vl : Nat → Nat) (K : Nat) (x1 : Int32) (x2 : Int32) (x3 : Int32) (x4 : Int32) (x5 : Int32) (zc zm : ow_MS) : Option ow_LwS :=
 cs1 (le_L_normal vl K 0 x1 x2 zc) fun v2 zc1 => cs1 (qe_X13_normal K x1 x2 zm) fun v4 zm3 => cs1 (qe_X13_thrown K zm3) fun v6 zm5 => (if v6 = v2 then (if v2 = 0 then crJ (cX vl) zc1 52001 0 fun v7 => (if (lg_cmp v7 v4.toInt64) = 0 then some (vl, zc1, zm5)
 else none)
 else some (vl, zc1, zm5))
 else none)
set_option maxHeartbeats 4000000 in
set_option maxRecDepth 100000 in
theorem lxc_normal {p : Program} {l : Launch} {e : Env} {s : State} {m : MethodId} {args : Array Value} {below : List Frame} {meth : Method} {c : Code} {b L K n : Nat} {xs : Nat → Int32} {D : va_G} {q : Nat → ClassId} {q5 : ow_Q5} {vl u w sa : Nat → Nat} {zc zm : ow_MS} {S1 : ow_LwS} {Ts : List Cond} {Q : State → Prop} {H : Heap} {locs : List Loc} {ls : Array Slot} {cells slots : Nat} (hx : p.tables.exec = Jvm.exec) (hb : c.code = cL_law) (hml : c.maxLocals = 8) (hown : s.vm.findClass RL = some m.cls) (hts : ∀ w ∈ Ts, w.before args s = true) (hX : va_X b L xs s s.heap) (hbl : b < s.heap.size) (hZ : ∀ w ∈ wZ, w ∈ Ts) (hL1 : ∀ w ∈ wLL, w ∈ Ts) (hC1 : ∀ w ∈ wC, w ∈ Ts) (hM1 : ∀ w ∈ wM, w ∈ Ts) (hG : lx_G l s D q q5 sa) (hLn : L ≤ 3072) (hn : 6 * n + 6 ≤ L) (hq : lst_normal vl K (xs (6 * n + 1)) (xs (6 * n + 2)) (xs (6 * n + 3)) (xs (6 * n + 4)) (xs (6 * n + 5)) zc zm = some S1) (hM : lx_M D q q5 s vl u w zc zm H locs) (hl : lv_has ls 8 [(0, .ref b), (1, .ref (u 0)), (2, .ref (w 0)), (3, .ref (u 52001)), (4, .int (nI (6 * n)))]) (hc : cells + 2 ≤ 600002) (hs : slots + 12 ≤ 7302232) (kk : ∀ (zc1 zm1 : ow_MS) (H1 : Heap) (locs1 : List Loc) (ls1 : Array Slot), lx_M D q q5 s vl u w zc1 zm1 H1 locs1 → lv_has ls1 8 [(0, .ref b), (1, .ref (u 0)), (2, .ref (w 0)), (3, .ref (u 52001)), (4, .int (nI (6 * n)))] → some (vl, zc1, zm1) = some S1 → W p l e room_1 s m args below meth c H1 locs1 (cells + 2) (slots + 12) Q (F0 m 2616 ls1 [])) : W p l e room_1 s m args below meth c H locs cells slots Q (F0 m 2227 ls []) := by
  have hbA : ¬ lx_A s b := Nat.not_le.mpr hbl
  generalize e1 : xs (6 * n + 1) = x1 at hq
  generalize e2 : xs (6 * n + 2) = x2 at hq
  generalize e3 : xs (6 * n + 3) = x3 at hq
  generalize e4 : xs (6 * n + 4) = x4 at hq
  generalize e5 : xs (6 * n + 5) = x5 at hq
  unfold lst_normal at hq
  refine lv_aload_n hx hb dz_2227 rfl (lv_at hl 1 rfl) ?_
  refine lv_aload_n hx hb dz_2228 rfl (lv_at hl 0 rfl) ?_
  refine lv_iload hx hb dz_2229 (lv_at hl 4 rfl) ?_
  refine lv_iconst (v := 1) hx hb dz_2231 (by decide) ?_
  refine lv_iadd hx hb dz_2232 ?_
  refine ow_topi (y := nI (6 * n + 1)) (nI_add (6 * n) 1) ?_
  refine va_sld hx hb hX hbl hbA hM.2.2.2.2.2 (vp_in_nI (n := 6 * n + 1) (N := L) (by omega) (by omega)) dz_2233 ?_
  refine ow_topi (y := x1) ((congrArg xs (nI_clamp (by omega))).trans e1) ?_
  refine lv_aload_n hx hb dz_2234 rfl (lv_at hl 0 rfl) ?_
  refine lv_iload hx hb dz_2235 (lv_at hl 4 rfl) ?_
  refine lv_iconst (v := 2) hx hb dz_2237 (by decide) ?_
  refine lv_iadd hx hb dz_2238 ?_
  refine ow_topi (y := nI (6 * n + 2)) (nI_add (6 * n) 2) ?_
  refine va_sld hx hb hX hbl hbA hM.2.2.2.2.2 (vp_in_nI (n := 6 * n + 2) (N := L) (by omega) (by omega)) dz_2239 ?_
  refine ow_topi (y := x2) ((congrArg xs (nI_clamp (by omega))).trans e2) ?_
  refine lv_aload_n hx hb dz_2240 rfl (lv_at hl 3 rfl) ?_
  obtain ⟨v2, zc1, hcq, hq⟩ := tw_cl1 hq
  refine lx_wrap hM (vx_runSX (As := [.ref (u 0), .int x1, .int x2, .ref (u 52001)]) (rest := []) ⟨hx, hb, hml, hown, hts⟩ (kl_L_normal l D q vl u hM.2.2.1.1 hG.1 sa K 0 x1 x2 (by unfold cw_X11 ci_X11; exact List.mem_singleton.mpr rfl) zc zc1 v2 hcq) (vx_cwSW 4 hts (lx_gS (lx_all wLL_good rfl) (lx_mem hL1 (hZ _ zq_242)) (hZ _ zq_243) (hZ _ zq_244) (hZ _ zq_3) rfl rfl rfl) rfl rfl rfl (by decide +kernel) ⟨(Nat.le_of_ble_eq_true rfl), (Nat.le_of_ble_eq_true rfl)⟩) (lx_preL hG hM) rfl rfl hl.1 rfl (lv_room (Nat.le_of_ble_eq_true rfl)) dz_2241 ⟨(by show _ ≤ 600002; omega), (by show _ ≤ 7302232; omega)⟩) (fun H locs hM => ?_)
  refine lv_istore (lv' := [(5, .int v2), (0, .ref b), (1, .ref (u 0)), (2, .ref (w 0)), (3, .ref (u 52001)), (4, .int (nI (6 * n)))]) hx hb dz_2244 hl (by decide) rfl (fun ls hl => ?_)
  refine lv_aload_n hx hb dz_2246 rfl (lv_at hl 3 rfl) ?_
  refine lv_aload_n hx hb dz_2247 rfl (lv_at hl 1 rfl) ?_
  refine lv_iload hx hb dz_2248 (lv_at hl 5 rfl) ?_
  refine lv_iconst (v := 1) hx hb dz_2250 (by decide) ?_
  refine lv_iadd hx hb dz_2251 ?_
  refine ow_topi (y := nI (6 * n + 1)) (nI_add (6 * n) 1) ?_
  refine va_sld hx hb hX hbl hbA hM.2.2.2.2.2 (vp_in_nI (n := 6 * n + 1) (N := L) (by omega) (by omega)) dz_2252 ?_
  refine ow_topi (y := x1) ((congrArg xs (nI_clamp (by omega))).trans e1) ?_
  refine lv_aload_n hx hb dz_2253 rfl (lv_at hl 1 rfl) ?_
  refine lv_iload hx hb dz_2254 (lv_at hl 5 rfl) ?_
  refine lv_iconst (v := 2) hx hb dz_2256 (by decide) ?_
  refine lv_iadd hx hb dz_2257 ?_
  refine ow_topi (y := nI (6 * n + 2)) (nI_add (6 * n) 2) ?_
  refine va_sld hx hb hX hbl hbA hM.2.2.2.2.2 (vp_in_nI (n := 6 * n + 2) (N := L) (by omega) (by omega)) dz_2258 ?_
  refine ow_topi (y := x2) ((congrArg xs (nI_clamp (by omega))).trans e2) ?_
  obtain ⟨v4, zm3, hcq, hq⟩ := tw_cl1 hq
  refine lx_refi hM (va_runV (As := [.int x1, .int x2]) (rest := []) ⟨hx, hb, hml, hown, hts⟩ (km_X13_normal l D q5 w hM.2.2.2.1.1 K x1 x2 zm zm3 v4 hcq) (cwV 2 hts (lx_gV (lx_all wM_good rfl) (lx_mem hM1 (hZ _ zq_245)) (hZ _ zq_246) (hZ _ zq_247) (hZ _ zq_248) (hZ _ zq_8) rfl rfl rfl rfl) rfl rfl rfl cd_X13_normal ⟨(Nat.le_of_ble_eq_true rfl), (Nat.le_of_ble_eq_true rfl)⟩) (lx_preM hG hM) rfl rfl hl.1 rfl (lv_room (Nat.le_of_ble_eq_true rfl)) dz_2259 ⟨(by show _ ≤ 600002; omega), (by show _ ≤ 7302232; omega)⟩) (fun H locs hM => ?_)
  refine lv_istore (lv' := [(6, .int v4), (5, .int v2), (0, .ref b), (1, .ref (u 0)), (2, .ref (w 0)), (3, .ref (u 52001)), (4, .int (nI (6 * n)))]) hx hb dz_2262 hl (by decide) rfl (fun ls hl => ?_)
  refine lv_aload_n hx hb dz_2264 rfl (lv_at hl 4 rfl) ?_
  obtain ⟨v6, zm5, hcq, hq⟩ := tw_cl1 hq
  refine lx_refi hM (va_runV (As := []) (rest := []) ⟨hx, hb, hml, hown, hts⟩ (km_X13_thrown l D q5 w hM.2.2.2.1.1 K zm3 zm5 v6 hcq) (cwV 0 hts (lx_gV (lx_all wM_good rfl) (lx_mem hM1 (hZ _ zq_9)) (hZ _ zq_10) (hZ _ zq_11) (hZ _ zq_12) (hZ _ zq_8) rfl rfl rfl rfl) rfl rfl rfl cd_X13_thrown ⟨(Nat.le_of_ble_eq_true rfl), (Nat.le_of_ble_eq_true rfl)⟩) (lx_preM hG hM) rfl rfl hl.1 rfl (lv_room (Nat.le_of_ble_eq_true rfl)) dz_2265 ⟨(by show _ ≤ 600002; omega), (by show _ ≤ 7302232; omega)⟩) (fun H locs hM => ?_)
  refine lv_iload hx hb dz_2268 (lv_at hl 1 rfl) ?_
  refine lv_icmp_eq (tgt := 2275) hx hb dz_2270 (by decide) (fun hc9 => ?_) (fun hc9 => ?_)
  · have hq := tw_it hq hc9
    refine lv_iload hx hb dz_2275 (lv_at hl 1 rfl) ?_
    refine lv_if_ne (tgt := 2292) hx hb dz_2277 (by decide) (fun hc9 => ?_) (fun hc9 => ?_)
    · have hq := tw_if hq hc9
      refine lv_goto (tgt := 2616) hx hb dz_2292 (by decide) ?_
      exact kk _ _ H locs ls hM (lv_sub hl [2, 3, 4, 5, 6] rfl) hq
    · have hq := tw_it hq hc9
      refine lv_aload_n hx hb dz_2280 rfl (lv_at hl 5 rfl) ?_
      refine lv_iconst (v := 0) hx hb dz_2281 (by decide) ?_
      refine uw_lald (A := lx_A s) (H0 := s.heap) cX_ok hx hb hG.2.1 ⟨hM.1, hM.2.2.2.2.2⟩ cr_out hq dz_2282 (fun v7 hq => ?_)
      refine lv_iload hx hb dz_2283 (lv_at hl 0 rfl) ?_
      refine lv_i2l hx hb dz_2285 rfl ?_
      refine W.lcmp hx hb dz_2286 ?_
      refine lv_if_eq (tgt := 2292) hx hb dz_2287 (by decide) (fun hc9 => ?_) (fun hc9 => ?_)
      · have hq := tw_it hq hc9
        refine lv_goto (tgt := 2616) hx hb dz_2292 (by decide) ?_
        exact kk _ _ H locs ls hM (lv_sub hl [2, 3, 4, 5, 6] rfl) hq
      · have hq := tw_if hq hc9
        refine lv_iconst (v := 0) hx hb dz_2290 (by decide) ?_
        exact cw_no hq
  · have hq := tw_if hq hc9
    refine lv_iconst (v := 0) hx hb dz_2273 (by decide) ?_
    exact cw_no hq
theorem dz_2295 : decode cL_law 2295 = .ok (.aload_n 1, 1) := by decide +kernel
theorem dz_2296 : decode cL_law 2296 = .ok (.aload_n 0, 1) := by decide +kernel
theorem dz_2297 : decode cL_law 2297 = .ok (.iload 4, 2) := by decide +kernel
theorem dz_2299 : decode cL_law 2299 = .ok (.iconst 1, 1) := by decide +kernel
theorem dz_2300 : decode cL_law 2300 = .ok (.iadd, 1) := by decide +kernel
theorem dz_2301 : decode cL_law 2301 = .ok (.iaload, 1) := by decide +kernel
theorem dz_2302 : decode cL_law 2302 = .ok (.aload_n 0, 1) := by decide +kernel
theorem dz_2303 : decode cL_law 2303 = .ok (.iload 4, 2) := by decide +kernel
theorem dz_2305 : decode cL_law 2305 = .ok (.iconst 2, 1) := by decide +kernel
theorem dz_2306 : decode cL_law 2306 = .ok (.iadd, 1) := by decide +kernel
theorem dz_2307 : decode cL_law 2307 = .ok (.iaload, 1) := by decide +kernel
theorem dz_2308 : decode cL_law 2308 = .ok (.aload_n 0, 1) := by decide +kernel
theorem dz_2309 : decode cL_law 2309 = .ok (.iload 4, 2) := by decide +kernel
theorem dz_2311 : decode cL_law 2311 = .ok (.iconst 3, 1) := by decide +kernel
theorem dz_2312 : decode cL_law 2312 = .ok (.iadd, 1) := by decide +kernel
theorem dz_2313 : decode cL_law 2313 = .ok (.iaload, 1) := by decide +kernel
theorem dz_2314 : decode cL_law 2314 = .ok (.aload_n 3, 1) := by decide +kernel
theorem dz_2315 : decode cL_law 2315 = .ok (.invokestatic 251, 3) := by decide +kernel
theorem dz_2318 : decode cL_law 2318 = .ok (.istore 5, 2) := by decide +kernel
theorem dz_2320 : decode cL_law 2320 = .ok (.aload_n 2, 1) := by decide +kernel
theorem dz_2321 : decode cL_law 2321 = .ok (.aload_n 0, 1) := by decide +kernel
theorem dz_2322 : decode cL_law 2322 = .ok (.iload 4, 2) := by decide +kernel
theorem dz_2324 : decode cL_law 2324 = .ok (.iconst 1, 1) := by decide +kernel
theorem dz_2325 : decode cL_law 2325 = .ok (.iadd, 1) := by decide +kernel
theorem dz_2326 : decode cL_law 2326 = .ok (.iaload, 1) := by decide +kernel
theorem dz_2327 : decode cL_law 2327 = .ok (.aload_n 0, 1) := by decide +kernel
theorem dz_2328 : decode cL_law 2328 = .ok (.iload 4, 2) := by decide +kernel
theorem dz_2330 : decode cL_law 2330 = .ok (.iconst 2, 1) := by decide +kernel
theorem dz_2331 : decode cL_law 2331 = .ok (.iadd, 1) := by decide +kernel
theorem dz_2332 : decode cL_law 2332 = .ok (.iaload, 1) := by decide +kernel
theorem dz_2333 : decode cL_law 2333 = .ok (.aload_n 0, 1) := by decide +kernel
theorem dz_2334 : decode cL_law 2334 = .ok (.iload 4, 2) := by decide +kernel
theorem dz_2336 : decode cL_law 2336 = .ok (.iconst 3, 1) := by decide +kernel
theorem dz_2337 : decode cL_law 2337 = .ok (.iadd, 1) := by decide +kernel
theorem dz_2338 : decode cL_law 2338 = .ok (.iaload, 1) := by decide +kernel
theorem dz_2339 : decode cL_law 2339 = .ok (.invokevirtual 253, 3) := by decide +kernel
theorem dz_2342 : decode cL_law 2342 = .ok (.istore 6, 2) := by decide +kernel
theorem dz_2344 : decode cL_law 2344 = .ok (.aload_n 2, 1) := by decide +kernel
theorem dz_2345 : decode cL_law 2345 = .ok (.invokevirtual 137, 3) := by decide +kernel
theorem dz_2348 : decode cL_law 2348 = .ok (.iload 5, 2) := by decide +kernel
theorem dz_2350 : decode cL_law 2350 = .ok (.if_icmp .eq 5, 3) := by decide +kernel
theorem dz_2353 : decode cL_law 2353 = .ok (.iconst 0, 1) := by decide +kernel
theorem dz_2354 : decode cL_law 2354 = .ok (.ireturn, 1) := by decide +kernel
theorem dz_2355 : decode cL_law 2355 = .ok (.iload 5, 2) := by decide +kernel
theorem dz_2357 : decode cL_law 2357 = .ok (.ifCond .ne 15, 3) := by decide +kernel
theorem dz_2360 : decode cL_law 2360 = .ok (.aload_n 3, 1) := by decide +kernel
theorem dz_2361 : decode cL_law 2361 = .ok (.iconst 0, 1) := by decide +kernel
theorem dz_2362 : decode cL_law 2362 = .ok (.laload, 1) := by decide +kernel
theorem dz_2363 : decode cL_law 2363 = .ok (.iload 6, 2) := by decide +kernel
theorem dz_2365 : decode cL_law 2365 = .ok (.i2l, 1) := by decide +kernel
theorem dz_2366 : decode cL_law 2366 = .ok (.lcmp, 1) := by decide +kernel
theorem dz_2367 : decode cL_law 2367 = .ok (.ifCond .eq 5, 3) := by decide +kernel
theorem dz_2370 : decode cL_law 2370 = .ok (.iconst 0, 1) := by decide +kernel
theorem dz_2371 : decode cL_law 2371 = .ok (.ireturn, 1) := by decide +kernel
theorem dz_2372 : decode cL_law 2372 = .ok (.goto 244, 3) := by decide +kernel
def lst_factor (vl : Nat → Nat) (K : Nat) (x1 : Int32) (x2 : Int32) (x3 : Int32) (x4 : Int32) (x5 : Int32) (zc zm : ow_MS) : Option ow_LwS :=
 cs1 (le_L_factor vl K 0 x1 x2 x3 zc) fun v2 zc1 => cs1 (qe_X13_factor K x1 x2 x3 zm) fun v4 zm3 => cs1 (qe_X13_thrown K zm3) fun v6 zm5 => (if v6 = v2 then (if v2 = 0 then crJ (cX vl) zc1 52001 0 fun v7 => (if (lg_cmp v7 v4.toInt64) = 0 then some (vl, zc1, zm5)
 else none)
 else some (vl, zc1, zm5))
 else none)
set_option maxHeartbeats 4000000 in
set_option maxRecDepth 100000 in
theorem lxc_factor {p : Program} {l : Launch} {e : Env} {s : State} {m : MethodId} {args : Array Value} {below : List Frame} {meth : Method} {c : Code} {b L K n : Nat} {xs : Nat → Int32} {D : va_G} {q : Nat → ClassId} {q5 : ow_Q5} {vl u w sa : Nat → Nat} {zc zm : ow_MS} {S1 : ow_LwS} {Ts : List Cond} {Q : State → Prop} {H : Heap} {locs : List Loc} {ls : Array Slot} {cells slots : Nat} (hx : p.tables.exec = Jvm.exec) (hb : c.code = cL_law) (hml : c.maxLocals = 8) (hown : s.vm.findClass RL = some m.cls) (hts : ∀ w ∈ Ts, w.before args s = true) (hX : va_X b L xs s s.heap) (hbl : b < s.heap.size) (hZ : ∀ w ∈ wZ, w ∈ Ts) (hL1 : ∀ w ∈ wLL, w ∈ Ts) (hC1 : ∀ w ∈ wC, w ∈ Ts) (hM1 : ∀ w ∈ wM, w ∈ Ts) (hG : lx_G l s D q q5 sa) (hLn : L ≤ 3072) (hn : 6 * n + 6 ≤ L) (hq : lst_factor vl K (xs (6 * n + 1)) (xs (6 * n + 2)) (xs (6 * n + 3)) (xs (6 * n + 4)) (xs (6 * n + 5)) zc zm = some S1) (hM : lx_M D q q5 s vl u w zc zm H locs) (hl : lv_has ls 8 [(0, .ref b), (1, .ref (u 0)), (2, .ref (w 0)), (3, .ref (u 52001)), (4, .int (nI (6 * n)))]) (hc : cells + 1 ≤ 600002) (hs : slots + 6 ≤ 7302232) (kk : ∀ (zc1 zm1 : ow_MS) (H1 : Heap) (locs1 : List Loc) (ls1 : Array Slot), lx_M D q q5 s vl u w zc1 zm1 H1 locs1 → lv_has ls1 8 [(0, .ref b), (1, .ref (u 0)), (2, .ref (w 0)), (3, .ref (u 52001)), (4, .int (nI (6 * n)))] → some (vl, zc1, zm1) = some S1 → W p l e room_1 s m args below meth c H1 locs1 (cells + 1) (slots + 6) Q (F0 m 2616 ls1 [])) : W p l e room_1 s m args below meth c H locs cells slots Q (F0 m 2295 ls []) := by
  have hbA : ¬ lx_A s b := Nat.not_le.mpr hbl
  generalize e1 : xs (6 * n + 1) = x1 at hq
  generalize e2 : xs (6 * n + 2) = x2 at hq
  generalize e3 : xs (6 * n + 3) = x3 at hq
  generalize e4 : xs (6 * n + 4) = x4 at hq
  generalize e5 : xs (6 * n + 5) = x5 at hq
  unfold lst_factor at hq
  refine lv_aload_n hx hb dz_2295 rfl (lv_at hl 1 rfl) ?_
  refine lv_aload_n hx hb dz_2296 rfl (lv_at hl 0 rfl) ?_
  refine lv_iload hx hb dz_2297 (lv_at hl 4 rfl) ?_
  refine lv_iconst (v := 1) hx hb dz_2299 (by decide) ?_
  refine lv_iadd hx hb dz_2300 ?_
  refine ow_topi (y := nI (6 * n + 1)) (nI_add (6 * n) 1) ?_
  refine va_sld hx hb hX hbl hbA hM.2.2.2.2.2 (vp_in_nI (n := 6 * n + 1) (N := L) (by omega) (by omega)) dz_2301 ?_
  refine ow_topi (y := x1) ((congrArg xs (nI_clamp (by omega))).trans e1) ?_
  refine lv_aload_n hx hb dz_2302 rfl (lv_at hl 0 rfl) ?_
  refine lv_iload hx hb dz_2303 (lv_at hl 4 rfl) ?_
  refine lv_iconst (v := 2) hx hb dz_2305 (by decide) ?_
  refine lv_iadd hx hb dz_2306 ?_
  refine ow_topi (y := nI (6 * n + 2)) (nI_add (6 * n) 2) ?_
  refine va_sld hx hb hX hbl hbA hM.2.2.2.2.2 (vp_in_nI (n := 6 * n + 2) (N := L) (by omega) (by omega)) dz_2307 ?_
  refine ow_topi (y := x2) ((congrArg xs (nI_clamp (by omega))).trans e2) ?_
  refine lv_aload_n hx hb dz_2308 rfl (lv_at hl 0 rfl) ?_
  refine lv_iload hx hb dz_2309 (lv_at hl 4 rfl) ?_
  refine lv_iconst (v := 3) hx hb dz_2311 (by decide) ?_
  refine lv_iadd hx hb dz_2312 ?_
  refine ow_topi (y := nI (6 * n + 3)) (nI_add (6 * n) 3) ?_
  refine va_sld hx hb hX hbl hbA hM.2.2.2.2.2 (vp_in_nI (n := 6 * n + 3) (N := L) (by omega) (by omega)) dz_2313 ?_
  refine ow_topi (y := x3) ((congrArg xs (nI_clamp (by omega))).trans e3) ?_
  refine lv_aload_n hx hb dz_2314 rfl (lv_at hl 3 rfl) ?_
  obtain ⟨v2, zc1, hcq, hq⟩ := tw_cl1 hq
  refine lx_wrap hM (vx_runSX (As := [.ref (u 0), .int x1, .int x2, .int x3, .ref (u 52001)]) (rest := []) ⟨hx, hb, hml, hown, hts⟩ (kl_L_factor l D q vl u hM.2.2.1.1 hG.1 sa K 0 x1 x2 x3 (by unfold cw_X11 ci_X11; exact List.mem_singleton.mpr rfl) zc zc1 v2 hcq) (vx_cwSW 5 hts (lx_gS (lx_all wLL_good rfl) (lx_mem hL1 (hZ _ zq_249)) (hZ _ zq_250) (hZ _ zq_251) (hZ _ zq_3) rfl rfl rfl) rfl rfl rfl (by decide +kernel) ⟨(Nat.le_of_ble_eq_true rfl), (Nat.le_of_ble_eq_true rfl)⟩) (lx_preL hG hM) rfl rfl hl.1 rfl (lv_room (Nat.le_of_ble_eq_true rfl)) dz_2315 ⟨(by show _ ≤ 600002; omega), (by show _ ≤ 7302232; omega)⟩) (fun H locs hM => ?_)
  refine lv_istore (lv' := [(5, .int v2), (0, .ref b), (1, .ref (u 0)), (2, .ref (w 0)), (3, .ref (u 52001)), (4, .int (nI (6 * n)))]) hx hb dz_2318 hl (by decide) rfl (fun ls hl => ?_)
  refine lv_aload_n hx hb dz_2320 rfl (lv_at hl 3 rfl) ?_
  refine lv_aload_n hx hb dz_2321 rfl (lv_at hl 1 rfl) ?_
  refine lv_iload hx hb dz_2322 (lv_at hl 5 rfl) ?_
  refine lv_iconst (v := 1) hx hb dz_2324 (by decide) ?_
  refine lv_iadd hx hb dz_2325 ?_
  refine ow_topi (y := nI (6 * n + 1)) (nI_add (6 * n) 1) ?_
  refine va_sld hx hb hX hbl hbA hM.2.2.2.2.2 (vp_in_nI (n := 6 * n + 1) (N := L) (by omega) (by omega)) dz_2326 ?_
  refine ow_topi (y := x1) ((congrArg xs (nI_clamp (by omega))).trans e1) ?_
  refine lv_aload_n hx hb dz_2327 rfl (lv_at hl 1 rfl) ?_
  refine lv_iload hx hb dz_2328 (lv_at hl 5 rfl) ?_
  refine lv_iconst (v := 2) hx hb dz_2330 (by decide) ?_
  refine lv_iadd hx hb dz_2331 ?_
  refine ow_topi (y := nI (6 * n + 2)) (nI_add (6 * n) 2) ?_
  refine va_sld hx hb hX hbl hbA hM.2.2.2.2.2 (vp_in_nI (n := 6 * n + 2) (N := L) (by omega) (by omega)) dz_2332 ?_
  refine ow_topi (y := x2) ((congrArg xs (nI_clamp (by omega))).trans e2) ?_
  refine lv_aload_n hx hb dz_2333 rfl (lv_at hl 1 rfl) ?_
  refine lv_iload hx hb dz_2334 (lv_at hl 5 rfl) ?_
  refine lv_iconst (v := 3) hx hb dz_2336 (by decide) ?_
  refine lv_iadd hx hb dz_2337 ?_
  refine ow_topi (y := nI (6 * n + 3)) (nI_add (6 * n) 3) ?_
  refine va_sld hx hb hX hbl hbA hM.2.2.2.2.2 (vp_in_nI (n := 6 * n + 3) (N := L) (by omega) (by omega)) dz_2338 ?_
  refine ow_topi (y := x3) ((congrArg xs (nI_clamp (by omega))).trans e3) ?_
  obtain ⟨v4, zm3, hcq, hq⟩ := tw_cl1 hq
  refine lx_refi hM (va_runV (As := [.int x1, .int x2, .int x3]) (rest := []) ⟨hx, hb, hml, hown, hts⟩ (km_X13_factor l D q5 w hM.2.2.2.1.1 K x1 x2 x3 zm zm3 v4 hcq) (cwV 3 hts (lx_gV (lx_all wM_good rfl) (lx_mem hM1 (hZ _ zq_252)) (hZ _ zq_253) (hZ _ zq_254) (hZ _ zq_255) (hZ _ zq_8) rfl rfl rfl rfl) rfl rfl rfl cd_X13_factor ⟨(Nat.le_of_ble_eq_true rfl), (Nat.le_of_ble_eq_true rfl)⟩) (lx_preM hG hM) rfl rfl hl.1 rfl (lv_room (Nat.le_of_ble_eq_true rfl)) dz_2339 ⟨(by show _ ≤ 600002; omega), (by show _ ≤ 7302232; omega)⟩) (fun H locs hM => ?_)
  refine lv_istore (lv' := [(6, .int v4), (5, .int v2), (0, .ref b), (1, .ref (u 0)), (2, .ref (w 0)), (3, .ref (u 52001)), (4, .int (nI (6 * n)))]) hx hb dz_2342 hl (by decide) rfl (fun ls hl => ?_)
  refine lv_aload_n hx hb dz_2344 rfl (lv_at hl 4 rfl) ?_
  obtain ⟨v6, zm5, hcq, hq⟩ := tw_cl1 hq
  refine lx_refi hM (va_runV (As := []) (rest := []) ⟨hx, hb, hml, hown, hts⟩ (km_X13_thrown l D q5 w hM.2.2.2.1.1 K zm3 zm5 v6 hcq) (cwV 0 hts (lx_gV (lx_all wM_good rfl) (lx_mem hM1 (hZ _ zq_9)) (hZ _ zq_10) (hZ _ zq_11) (hZ _ zq_12) (hZ _ zq_8) rfl rfl rfl rfl) rfl rfl rfl cd_X13_thrown ⟨(Nat.le_of_ble_eq_true rfl), (Nat.le_of_ble_eq_true rfl)⟩) (lx_preM hG hM) rfl rfl hl.1 rfl (lv_room (Nat.le_of_ble_eq_true rfl)) dz_2345 ⟨(by show _ ≤ 600002; omega), (by show _ ≤ 7302232; omega)⟩) (fun H locs hM => ?_)
  refine lv_iload hx hb dz_2348 (lv_at hl 1 rfl) ?_
  refine lv_icmp_eq (tgt := 2355) hx hb dz_2350 (by decide) (fun hc9 => ?_) (fun hc9 => ?_)
  · have hq := tw_it hq hc9
    refine lv_iload hx hb dz_2355 (lv_at hl 1 rfl) ?_
    refine lv_if_ne (tgt := 2372) hx hb dz_2357 (by decide) (fun hc9 => ?_) (fun hc9 => ?_)
    · have hq := tw_if hq hc9
      refine lv_goto (tgt := 2616) hx hb dz_2372 (by decide) ?_
      exact kk _ _ H locs ls hM (lv_sub hl [2, 3, 4, 5, 6] rfl) hq
    · have hq := tw_it hq hc9
      refine lv_aload_n hx hb dz_2360 rfl (lv_at hl 5 rfl) ?_
      refine lv_iconst (v := 0) hx hb dz_2361 (by decide) ?_
      refine uw_lald (A := lx_A s) (H0 := s.heap) cX_ok hx hb hG.2.1 ⟨hM.1, hM.2.2.2.2.2⟩ cr_out hq dz_2362 (fun v7 hq => ?_)
      refine lv_iload hx hb dz_2363 (lv_at hl 0 rfl) ?_
      refine lv_i2l hx hb dz_2365 rfl ?_
      refine W.lcmp hx hb dz_2366 ?_
      refine lv_if_eq (tgt := 2372) hx hb dz_2367 (by decide) (fun hc9 => ?_) (fun hc9 => ?_)
      · have hq := tw_it hq hc9
        refine lv_goto (tgt := 2616) hx hb dz_2372 (by decide) ?_
        exact kk _ _ H locs ls hM (lv_sub hl [2, 3, 4, 5, 6] rfl) hq
      · have hq := tw_if hq hc9
        refine lv_iconst (v := 0) hx hb dz_2370 (by decide) ?_
        exact cw_no hq
  · have hq := tw_if hq hc9
    refine lv_iconst (v := 0) hx hb dz_2353 (by decide) ?_
    exact cw_no hq
theorem dz_2375 : decode cL_law 2375 = .ok (.aload_n 1, 1) := by decide +kernel
theorem dz_2376 : decode cL_law 2376 = .ok (.aload_n 0, 1) := by decide +kernel
theorem dz_2377 : decode cL_law 2377 = .ok (.iload 4, 2) := by decide +kernel
theorem dz_2379 : decode cL_law 2379 = .ok (.iconst 1, 1) := by decide +kernel
theorem dz_2380 : decode cL_law 2380 = .ok (.iadd, 1) := by decide +kernel
theorem dz_2381 : decode cL_law 2381 = .ok (.iaload, 1) := by decide +kernel
theorem dz_2382 : decode cL_law 2382 = .ok (.aload_n 0, 1) := by decide +kernel
theorem dz_2383 : decode cL_law 2383 = .ok (.iload 4, 2) := by decide +kernel
theorem dz_2385 : decode cL_law 2385 = .ok (.iconst 2, 1) := by decide +kernel
theorem dz_2386 : decode cL_law 2386 = .ok (.iadd, 1) := by decide +kernel
theorem dz_2387 : decode cL_law 2387 = .ok (.iaload, 1) := by decide +kernel
theorem dz_2388 : decode cL_law 2388 = .ok (.invokevirtual 254, 3) := by decide +kernel
theorem dz_2391 : decode cL_law 2391 = .ok (.aload_n 2, 1) := by decide +kernel
theorem dz_2392 : decode cL_law 2392 = .ok (.aload_n 0, 1) := by decide +kernel
theorem dz_2393 : decode cL_law 2393 = .ok (.iload 4, 2) := by decide +kernel
theorem dz_2395 : decode cL_law 2395 = .ok (.iconst 1, 1) := by decide +kernel
theorem dz_2396 : decode cL_law 2396 = .ok (.iadd, 1) := by decide +kernel
theorem dz_2397 : decode cL_law 2397 = .ok (.iaload, 1) := by decide +kernel
theorem dz_2398 : decode cL_law 2398 = .ok (.aload_n 0, 1) := by decide +kernel
theorem dz_2399 : decode cL_law 2399 = .ok (.iload 4, 2) := by decide +kernel
theorem dz_2401 : decode cL_law 2401 = .ok (.iconst 2, 1) := by decide +kernel
theorem dz_2402 : decode cL_law 2402 = .ok (.iadd, 1) := by decide +kernel
theorem dz_2403 : decode cL_law 2403 = .ok (.iaload, 1) := by decide +kernel
theorem dz_2404 : decode cL_law 2404 = .ok (.invokevirtual 257, 3) := by decide +kernel
theorem dz_2407 : decode cL_law 2407 = .ok (.if_icmp .eq 209, 3) := by decide +kernel
theorem dz_2410 : decode cL_law 2410 = .ok (.iconst 0, 1) := by decide +kernel
theorem dz_2411 : decode cL_law 2411 = .ok (.ireturn, 1) := by decide +kernel
def lst_equal (vl : Nat → Nat) (K : Nat) (x1 : Int32) (x2 : Int32) (x3 : Int32) (x4 : Int32) (x5 : Int32) (zc zm : ow_MS) : Option ow_LwS :=
 cs1 (ce_X11_equal vl K 0 x1 x2 zc) fun v2 zc1 => cs1 (qe_X13_equal K x1 x2 zm) fun v4 zm3 => (if v2 = v4 then some (vl, zc1, zm3)
 else none)
set_option maxHeartbeats 4000000 in
set_option maxRecDepth 100000 in
theorem lxc_equal {p : Program} {l : Launch} {e : Env} {s : State} {m : MethodId} {args : Array Value} {below : List Frame} {meth : Method} {c : Code} {b L K n : Nat} {xs : Nat → Int32} {D : va_G} {q : Nat → ClassId} {q5 : ow_Q5} {vl u w sa : Nat → Nat} {zc zm : ow_MS} {S1 : ow_LwS} {Ts : List Cond} {Q : State → Prop} {H : Heap} {locs : List Loc} {ls : Array Slot} {cells slots : Nat} (hx : p.tables.exec = Jvm.exec) (hb : c.code = cL_law) (hml : c.maxLocals = 8) (hown : s.vm.findClass RL = some m.cls) (hts : ∀ w ∈ Ts, w.before args s = true) (hX : va_X b L xs s s.heap) (hbl : b < s.heap.size) (hZ : ∀ w ∈ wZ, w ∈ Ts) (hL1 : ∀ w ∈ wLL, w ∈ Ts) (hC1 : ∀ w ∈ wC, w ∈ Ts) (hM1 : ∀ w ∈ wM, w ∈ Ts) (hG : lx_G l s D q q5 sa) (hLn : L ≤ 3072) (hn : 6 * n + 6 ≤ L) (hq : lst_equal vl K (xs (6 * n + 1)) (xs (6 * n + 2)) (xs (6 * n + 3)) (xs (6 * n + 4)) (xs (6 * n + 5)) zc zm = some S1) (hM : lx_M D q q5 s vl u w zc zm H locs) (hl : lv_has ls 8 [(0, .ref b), (1, .ref (u 0)), (2, .ref (w 0)), (3, .ref (u 52001)), (4, .int (nI (6 * n)))]) (hc : cells + 0 ≤ 600002) (hs : slots + 0 ≤ 7302232) (kk : ∀ (zc1 zm1 : ow_MS) (H1 : Heap) (locs1 : List Loc) (ls1 : Array Slot), lx_M D q q5 s vl u w zc1 zm1 H1 locs1 → lv_has ls1 8 [(0, .ref b), (1, .ref (u 0)), (2, .ref (w 0)), (3, .ref (u 52001)), (4, .int (nI (6 * n)))] → some (vl, zc1, zm1) = some S1 → W p l e room_1 s m args below meth c H1 locs1 (cells + 0) (slots + 0) Q (F0 m 2616 ls1 [])) : W p l e room_1 s m args below meth c H locs cells slots Q (F0 m 2375 ls []) := by
  have hbA : ¬ lx_A s b := Nat.not_le.mpr hbl
  generalize e1 : xs (6 * n + 1) = x1 at hq
  generalize e2 : xs (6 * n + 2) = x2 at hq
  generalize e3 : xs (6 * n + 3) = x3 at hq
  generalize e4 : xs (6 * n + 4) = x4 at hq
  generalize e5 : xs (6 * n + 5) = x5 at hq
  unfold lst_equal at hq
  refine lv_aload_n hx hb dz_2375 rfl (lv_at hl 1 rfl) ?_
  refine lv_aload_n hx hb dz_2376 rfl (lv_at hl 0 rfl) ?_
  refine lv_iload hx hb dz_2377 (lv_at hl 4 rfl) ?_
  refine lv_iconst (v := 1) hx hb dz_2379 (by decide) ?_
  refine lv_iadd hx hb dz_2380 ?_
  refine ow_topi (y := nI (6 * n + 1)) (nI_add (6 * n) 1) ?_
  refine va_sld hx hb hX hbl hbA hM.2.2.2.2.2 (vp_in_nI (n := 6 * n + 1) (N := L) (by omega) (by omega)) dz_2381 ?_
  refine ow_topi (y := x1) ((congrArg xs (nI_clamp (by omega))).trans e1) ?_
  refine lv_aload_n hx hb dz_2382 rfl (lv_at hl 0 rfl) ?_
  refine lv_iload hx hb dz_2383 (lv_at hl 4 rfl) ?_
  refine lv_iconst (v := 2) hx hb dz_2385 (by decide) ?_
  refine lv_iadd hx hb dz_2386 ?_
  refine ow_topi (y := nI (6 * n + 2)) (nI_add (6 * n) 2) ?_
  refine va_sld hx hb hX hbl hbA hM.2.2.2.2.2 (vp_in_nI (n := 6 * n + 2) (N := L) (by omega) (by omega)) dz_2387 ?_
  refine ow_topi (y := x2) ((congrArg xs (nI_clamp (by omega))).trans e2) ?_
  obtain ⟨v2, zc1, hcq, hq⟩ := tw_cl1 hq
  refine lx_cls hM (va_runV (As := [.int x1, .int x2]) (rest := []) ⟨hx, hb, hml, hown, hts⟩ (kc_X11_equal l D q vl u hM.2.2.1.1 K 0 x1 x2 (by unfold cw_X11 ci_X11; exact List.mem_singleton.mpr rfl) zc zc1 v2 hcq) (cwV 2 hts (lx_gV (lx_all wC_good rfl) (lx_mem hC1 (hZ _ zq_256)) (hZ _ zq_257) (hZ _ zq_258) (hZ _ zq_259) (hZ _ zq_38) rfl rfl rfl rfl) rfl rfl rfl cdd_X11_equal ⟨(Nat.le_of_ble_eq_true rfl), (Nat.le_of_ble_eq_true rfl)⟩) (lx_preC hG hM) rfl rfl hl.1 rfl (lv_room (Nat.le_of_ble_eq_true rfl)) dz_2388 ⟨(by show _ ≤ 600002; omega), (by show _ ≤ 7302232; omega)⟩) (fun H locs hM => ?_)
  refine lv_aload_n hx hb dz_2391 rfl (lv_at hl 2 rfl) ?_
  refine lv_aload_n hx hb dz_2392 rfl (lv_at hl 0 rfl) ?_
  refine lv_iload hx hb dz_2393 (lv_at hl 4 rfl) ?_
  refine lv_iconst (v := 1) hx hb dz_2395 (by decide) ?_
  refine lv_iadd hx hb dz_2396 ?_
  refine ow_topi (y := nI (6 * n + 1)) (nI_add (6 * n) 1) ?_
  refine va_sld hx hb hX hbl hbA hM.2.2.2.2.2 (vp_in_nI (n := 6 * n + 1) (N := L) (by omega) (by omega)) dz_2397 ?_
  refine ow_topi (y := x1) ((congrArg xs (nI_clamp (by omega))).trans e1) ?_
  refine lv_aload_n hx hb dz_2398 rfl (lv_at hl 0 rfl) ?_
  refine lv_iload hx hb dz_2399 (lv_at hl 4 rfl) ?_
  refine lv_iconst (v := 2) hx hb dz_2401 (by decide) ?_
  refine lv_iadd hx hb dz_2402 ?_
  refine ow_topi (y := nI (6 * n + 2)) (nI_add (6 * n) 2) ?_
  refine va_sld hx hb hX hbl hbA hM.2.2.2.2.2 (vp_in_nI (n := 6 * n + 2) (N := L) (by omega) (by omega)) dz_2403 ?_
  refine ow_topi (y := x2) ((congrArg xs (nI_clamp (by omega))).trans e2) ?_
  obtain ⟨v4, zm3, hcq, hq⟩ := tw_cl1 hq
  refine lx_refi hM (va_runV (As := [.int x1, .int x2]) (rest := [.int v2]) ⟨hx, hb, hml, hown, hts⟩ (km_X13_equal l D q5 w hM.2.2.2.1.1 K x1 x2 zm zm3 v4 hcq) (cwV 2 hts (lx_gV (lx_all wM_good rfl) (lx_mem hM1 (hZ _ zq_260)) (hZ _ zq_261) (hZ _ zq_262) (hZ _ zq_263) (hZ _ zq_8) rfl rfl rfl rfl) rfl rfl rfl cd_X13_equal ⟨(Nat.le_of_ble_eq_true rfl), (Nat.le_of_ble_eq_true rfl)⟩) (lx_preM hG hM) rfl rfl hl.1 rfl (lv_room (Nat.le_of_ble_eq_true rfl)) dz_2404 ⟨(by show _ ≤ 600002; omega), (by show _ ≤ 7302232; omega)⟩) (fun H locs hM => ?_)
  refine lv_icmp_eq (tgt := 2616) hx hb dz_2407 (by decide) (fun hc9 => ?_) (fun hc9 => ?_)
  · have hq := tw_it hq hc9
    exact kk _ _ H locs ls hM (lv_sub hl [0, 1, 2, 3, 4] rfl) hq
  · have hq := tw_if hq hc9
    refine lv_iconst (v := 0) hx hb dz_2410 (by decide) ?_
    exact cw_no hq
theorem dz_2412 : decode cL_law 2412 = .ok (.aload_n 1, 1) := by decide +kernel
theorem dz_2413 : decode cL_law 2413 = .ok (.aload_n 0, 1) := by decide +kernel
theorem dz_2414 : decode cL_law 2414 = .ok (.iload 4, 2) := by decide +kernel
theorem dz_2416 : decode cL_law 2416 = .ok (.iconst 1, 1) := by decide +kernel
theorem dz_2417 : decode cL_law 2417 = .ok (.iadd, 1) := by decide +kernel
theorem dz_2418 : decode cL_law 2418 = .ok (.iaload, 1) := by decide +kernel
theorem dz_2419 : decode cL_law 2419 = .ok (.aload_n 3, 1) := by decide +kernel
theorem dz_2420 : decode cL_law 2420 = .ok (.invokestatic 258, 3) := by decide +kernel
theorem dz_2423 : decode cL_law 2423 = .ok (.istore 5, 2) := by decide +kernel
theorem dz_2425 : decode cL_law 2425 = .ok (.aload_n 2, 1) := by decide +kernel
theorem dz_2426 : decode cL_law 2426 = .ok (.aload_n 0, 1) := by decide +kernel
theorem dz_2427 : decode cL_law 2427 = .ok (.iload 4, 2) := by decide +kernel
theorem dz_2429 : decode cL_law 2429 = .ok (.iconst 1, 1) := by decide +kernel
theorem dz_2430 : decode cL_law 2430 = .ok (.iadd, 1) := by decide +kernel
theorem dz_2431 : decode cL_law 2431 = .ok (.iaload, 1) := by decide +kernel
theorem dz_2432 : decode cL_law 2432 = .ok (.invokevirtual 260, 3) := by decide +kernel
theorem dz_2435 : decode cL_law 2435 = .ok (.istore 6, 2) := by decide +kernel
theorem dz_2437 : decode cL_law 2437 = .ok (.aload_n 2, 1) := by decide +kernel
theorem dz_2438 : decode cL_law 2438 = .ok (.invokevirtual 137, 3) := by decide +kernel
theorem dz_2441 : decode cL_law 2441 = .ok (.iload 5, 2) := by decide +kernel
theorem dz_2443 : decode cL_law 2443 = .ok (.if_icmp .eq 5, 3) := by decide +kernel
theorem dz_2446 : decode cL_law 2446 = .ok (.iconst 0, 1) := by decide +kernel
theorem dz_2447 : decode cL_law 2447 = .ok (.ireturn, 1) := by decide +kernel
theorem dz_2448 : decode cL_law 2448 = .ok (.iload 5, 2) := by decide +kernel
theorem dz_2450 : decode cL_law 2450 = .ok (.ifCond .ne 15, 3) := by decide +kernel
theorem dz_2453 : decode cL_law 2453 = .ok (.aload_n 3, 1) := by decide +kernel
theorem dz_2454 : decode cL_law 2454 = .ok (.iconst 0, 1) := by decide +kernel
theorem dz_2455 : decode cL_law 2455 = .ok (.laload, 1) := by decide +kernel
theorem dz_2456 : decode cL_law 2456 = .ok (.iload 6, 2) := by decide +kernel
theorem dz_2458 : decode cL_law 2458 = .ok (.i2l, 1) := by decide +kernel
theorem dz_2459 : decode cL_law 2459 = .ok (.lcmp, 1) := by decide +kernel
theorem dz_2460 : decode cL_law 2460 = .ok (.ifCond .eq 5, 3) := by decide +kernel
theorem dz_2463 : decode cL_law 2463 = .ok (.iconst 0, 1) := by decide +kernel
theorem dz_2464 : decode cL_law 2464 = .ok (.ireturn, 1) := by decide +kernel
theorem dz_2465 : decode cL_law 2465 = .ok (.goto 151, 3) := by decide +kernel
def lst_summit (vl : Nat → Nat) (K : Nat) (x1 : Int32) (x2 : Int32) (x3 : Int32) (x4 : Int32) (x5 : Int32) (zc zm : ow_MS) : Option ow_LwS :=
 cs1 (le_L_summit vl K 0 x1 zc) fun v2 zc1 => cs1 (qe_X13_summit K x1 zm) fun v4 zm3 => cs1 (qe_X13_thrown K zm3) fun v6 zm5 => (if v6 = v2 then (if v2 = 0 then crJ (cX vl) zc1 52001 0 fun v7 => (if (lg_cmp v7 v4.toInt64) = 0 then some (vl, zc1, zm5)
 else none)
 else some (vl, zc1, zm5))
 else none)
set_option maxHeartbeats 4000000 in
set_option maxRecDepth 100000 in
theorem lxc_summit {p : Program} {l : Launch} {e : Env} {s : State} {m : MethodId} {args : Array Value} {below : List Frame} {meth : Method} {c : Code} {b L K n : Nat} {xs : Nat → Int32} {D : va_G} {q : Nat → ClassId} {q5 : ow_Q5} {vl u w sa : Nat → Nat} {zc zm : ow_MS} {S1 : ow_LwS} {Ts : List Cond} {Q : State → Prop} {H : Heap} {locs : List Loc} {ls : Array Slot} {cells slots : Nat} (hx : p.tables.exec = Jvm.exec) (hb : c.code = cL_law) (hml : c.maxLocals = 8) (hown : s.vm.findClass RL = some m.cls) (hts : ∀ w ∈ Ts, w.before args s = true) (hX : va_X b L xs s s.heap) (hbl : b < s.heap.size) (hZ : ∀ w ∈ wZ, w ∈ Ts) (hL1 : ∀ w ∈ wLL, w ∈ Ts) (hC1 : ∀ w ∈ wC, w ∈ Ts) (hM1 : ∀ w ∈ wM, w ∈ Ts) (hG : lx_G l s D q q5 sa) (hLn : L ≤ 3072) (hn : 6 * n + 6 ≤ L) (hq : lst_summit vl K (xs (6 * n + 1)) (xs (6 * n + 2)) (xs (6 * n + 3)) (xs (6 * n + 4)) (xs (6 * n + 5)) zc zm = some S1) (hM : lx_M D q q5 s vl u w zc zm H locs) (hl : lv_has ls 8 [(0, .ref b), (1, .ref (u 0)), (2, .ref (w 0)), (3, .ref (u 52001)), (4, .int (nI (6 * n)))]) (hc : cells + 2 ≤ 600002) (hs : slots + 12 ≤ 7302232) (kk : ∀ (zc1 zm1 : ow_MS) (H1 : Heap) (locs1 : List Loc) (ls1 : Array Slot), lx_M D q q5 s vl u w zc1 zm1 H1 locs1 → lv_has ls1 8 [(0, .ref b), (1, .ref (u 0)), (2, .ref (w 0)), (3, .ref (u 52001)), (4, .int (nI (6 * n)))] → some (vl, zc1, zm1) = some S1 → W p l e room_1 s m args below meth c H1 locs1 (cells + 2) (slots + 12) Q (F0 m 2616 ls1 [])) : W p l e room_1 s m args below meth c H locs cells slots Q (F0 m 2412 ls []) := by
  have hbA : ¬ lx_A s b := Nat.not_le.mpr hbl
  generalize e1 : xs (6 * n + 1) = x1 at hq
  generalize e2 : xs (6 * n + 2) = x2 at hq
  generalize e3 : xs (6 * n + 3) = x3 at hq
  generalize e4 : xs (6 * n + 4) = x4 at hq
  generalize e5 : xs (6 * n + 5) = x5 at hq
  unfold lst_summit at hq
  refine lv_aload_n hx hb dz_2412 rfl (lv_at hl 1 rfl) ?_
  refine lv_aload_n hx hb dz_2413 rfl (lv_at hl 0 rfl) ?_
  refine lv_iload hx hb dz_2414 (lv_at hl 4 rfl) ?_
  refine lv_iconst (v := 1) hx hb dz_2416 (by decide) ?_
  refine lv_iadd hx hb dz_2417 ?_
  refine ow_topi (y := nI (6 * n + 1)) (nI_add (6 * n) 1) ?_
  refine va_sld hx hb hX hbl hbA hM.2.2.2.2.2 (vp_in_nI (n := 6 * n + 1) (N := L) (by omega) (by omega)) dz_2418 ?_
  refine ow_topi (y := x1) ((congrArg xs (nI_clamp (by omega))).trans e1) ?_
  refine lv_aload_n hx hb dz_2419 rfl (lv_at hl 3 rfl) ?_
  obtain ⟨v2, zc1, hcq, hq⟩ := tw_cl1 hq
  refine lx_wrap hM (vx_runSX (As := [.ref (u 0), .int x1, .ref (u 52001)]) (rest := []) ⟨hx, hb, hml, hown, hts⟩ (kl_L_summit l D q vl u hM.2.2.1.1 hG.1 sa K 0 x1 (by unfold cw_X11 ci_X11; exact List.mem_singleton.mpr rfl) zc zc1 v2 hcq) (vx_cwSW 3 hts (lx_gS (lx_all wLL_good rfl) (lx_mem hL1 (hZ _ zq_264)) (hZ _ zq_265) (hZ _ zq_266) (hZ _ zq_3) rfl rfl rfl) rfl rfl rfl (by decide +kernel) ⟨(Nat.le_of_ble_eq_true rfl), (Nat.le_of_ble_eq_true rfl)⟩) (lx_preL hG hM) rfl rfl hl.1 rfl (lv_room (Nat.le_of_ble_eq_true rfl)) dz_2420 ⟨(by show _ ≤ 600002; omega), (by show _ ≤ 7302232; omega)⟩) (fun H locs hM => ?_)
  refine lv_istore (lv' := [(5, .int v2), (0, .ref b), (1, .ref (u 0)), (2, .ref (w 0)), (3, .ref (u 52001)), (4, .int (nI (6 * n)))]) hx hb dz_2423 hl (by decide) rfl (fun ls hl => ?_)
  refine lv_aload_n hx hb dz_2425 rfl (lv_at hl 3 rfl) ?_
  refine lv_aload_n hx hb dz_2426 rfl (lv_at hl 1 rfl) ?_
  refine lv_iload hx hb dz_2427 (lv_at hl 5 rfl) ?_
  refine lv_iconst (v := 1) hx hb dz_2429 (by decide) ?_
  refine lv_iadd hx hb dz_2430 ?_
  refine ow_topi (y := nI (6 * n + 1)) (nI_add (6 * n) 1) ?_
  refine va_sld hx hb hX hbl hbA hM.2.2.2.2.2 (vp_in_nI (n := 6 * n + 1) (N := L) (by omega) (by omega)) dz_2431 ?_
  refine ow_topi (y := x1) ((congrArg xs (nI_clamp (by omega))).trans e1) ?_
  obtain ⟨v4, zm3, hcq, hq⟩ := tw_cl1 hq
  refine lx_refi hM (va_runV (As := [.int x1]) (rest := []) ⟨hx, hb, hml, hown, hts⟩ (km_X13_summit l D q5 w hM.2.2.2.1.1 K x1 zm zm3 v4 hcq) (cwV 1 hts (lx_gV (lx_all wM_good rfl) (lx_mem hM1 (hZ _ zq_267)) (hZ _ zq_268) (hZ _ zq_269) (hZ _ zq_270) (hZ _ zq_8) rfl rfl rfl rfl) rfl rfl rfl cd_X13_summit ⟨(Nat.le_of_ble_eq_true rfl), (Nat.le_of_ble_eq_true rfl)⟩) (lx_preM hG hM) rfl rfl hl.1 rfl (lv_room (Nat.le_of_ble_eq_true rfl)) dz_2432 ⟨(by show _ ≤ 600002; omega), (by show _ ≤ 7302232; omega)⟩) (fun H locs hM => ?_)
  refine lv_istore (lv' := [(6, .int v4), (5, .int v2), (0, .ref b), (1, .ref (u 0)), (2, .ref (w 0)), (3, .ref (u 52001)), (4, .int (nI (6 * n)))]) hx hb dz_2435 hl (by decide) rfl (fun ls hl => ?_)
  refine lv_aload_n hx hb dz_2437 rfl (lv_at hl 4 rfl) ?_
  obtain ⟨v6, zm5, hcq, hq⟩ := tw_cl1 hq
  refine lx_refi hM (va_runV (As := []) (rest := []) ⟨hx, hb, hml, hown, hts⟩ (km_X13_thrown l D q5 w hM.2.2.2.1.1 K zm3 zm5 v6 hcq) (cwV 0 hts (lx_gV (lx_all wM_good rfl) (lx_mem hM1 (hZ _ zq_9)) (hZ _ zq_10) (hZ _ zq_11) (hZ _ zq_12) (hZ _ zq_8) rfl rfl rfl rfl) rfl rfl rfl cd_X13_thrown ⟨(Nat.le_of_ble_eq_true rfl), (Nat.le_of_ble_eq_true rfl)⟩) (lx_preM hG hM) rfl rfl hl.1 rfl (lv_room (Nat.le_of_ble_eq_true rfl)) dz_2438 ⟨(by show _ ≤ 600002; omega), (by show _ ≤ 7302232; omega)⟩) (fun H locs hM => ?_)
  refine lv_iload hx hb dz_2441 (lv_at hl 1 rfl) ?_
  refine lv_icmp_eq (tgt := 2448) hx hb dz_2443 (by decide) (fun hc9 => ?_) (fun hc9 => ?_)
  · have hq := tw_it hq hc9
    refine lv_iload hx hb dz_2448 (lv_at hl 1 rfl) ?_
    refine lv_if_ne (tgt := 2465) hx hb dz_2450 (by decide) (fun hc9 => ?_) (fun hc9 => ?_)
    · have hq := tw_if hq hc9
      refine lv_goto (tgt := 2616) hx hb dz_2465 (by decide) ?_
      exact kk _ _ H locs ls hM (lv_sub hl [2, 3, 4, 5, 6] rfl) hq
    · have hq := tw_it hq hc9
      refine lv_aload_n hx hb dz_2453 rfl (lv_at hl 5 rfl) ?_
      refine lv_iconst (v := 0) hx hb dz_2454 (by decide) ?_
      refine uw_lald (A := lx_A s) (H0 := s.heap) cX_ok hx hb hG.2.1 ⟨hM.1, hM.2.2.2.2.2⟩ cr_out hq dz_2455 (fun v7 hq => ?_)
      refine lv_iload hx hb dz_2456 (lv_at hl 0 rfl) ?_
      refine lv_i2l hx hb dz_2458 rfl ?_
      refine W.lcmp hx hb dz_2459 ?_
      refine lv_if_eq (tgt := 2465) hx hb dz_2460 (by decide) (fun hc9 => ?_) (fun hc9 => ?_)
      · have hq := tw_it hq hc9
        refine lv_goto (tgt := 2616) hx hb dz_2465 (by decide) ?_
        exact kk _ _ H locs ls hM (lv_sub hl [2, 3, 4, 5, 6] rfl) hq
      · have hq := tw_if hq hc9
        refine lv_iconst (v := 0) hx hb dz_2463 (by decide) ?_
        exact cw_no hq
  · have hq := tw_if hq hc9
    refine lv_iconst (v := 0) hx hb dz_2446 (by decide) ?_
    exact cw_no hq
theorem dz_2468 : decode cL_law 2468 = .ok (.aload_n 1, 1) := by decide +kernel
theorem dz_2469 : decode cL_law 2469 = .ok (.aload_n 0, 1) := by decide +kernel
theorem dz_2470 : decode cL_law 2470 = .ok (.iload 4, 2) := by decide +kernel
theorem dz_2472 : decode cL_law 2472 = .ok (.iconst 1, 1) := by decide +kernel
theorem dz_2473 : decode cL_law 2473 = .ok (.iadd, 1) := by decide +kernel
theorem dz_2474 : decode cL_law 2474 = .ok (.iaload, 1) := by decide +kernel
theorem dz_2475 : decode cL_law 2475 = .ok (.aload_n 0, 1) := by decide +kernel
theorem dz_2476 : decode cL_law 2476 = .ok (.iload 4, 2) := by decide +kernel
theorem dz_2478 : decode cL_law 2478 = .ok (.iconst 2, 1) := by decide +kernel
theorem dz_2479 : decode cL_law 2479 = .ok (.iadd, 1) := by decide +kernel
theorem dz_2480 : decode cL_law 2480 = .ok (.iaload, 1) := by decide +kernel
theorem dz_2481 : decode cL_law 2481 = .ok (.aload_n 3, 1) := by decide +kernel
theorem dz_2482 : decode cL_law 2482 = .ok (.invokestatic 261, 3) := by decide +kernel
theorem dz_2485 : decode cL_law 2485 = .ok (.istore 5, 2) := by decide +kernel
theorem dz_2487 : decode cL_law 2487 = .ok (.aload_n 2, 1) := by decide +kernel
theorem dz_2488 : decode cL_law 2488 = .ok (.aload_n 0, 1) := by decide +kernel
theorem dz_2489 : decode cL_law 2489 = .ok (.iload 4, 2) := by decide +kernel
theorem dz_2491 : decode cL_law 2491 = .ok (.iconst 1, 1) := by decide +kernel
theorem dz_2492 : decode cL_law 2492 = .ok (.iadd, 1) := by decide +kernel
theorem dz_2493 : decode cL_law 2493 = .ok (.iaload, 1) := by decide +kernel
theorem dz_2494 : decode cL_law 2494 = .ok (.aload_n 0, 1) := by decide +kernel
theorem dz_2495 : decode cL_law 2495 = .ok (.iload 4, 2) := by decide +kernel
theorem dz_2497 : decode cL_law 2497 = .ok (.iconst 2, 1) := by decide +kernel
theorem dz_2498 : decode cL_law 2498 = .ok (.iadd, 1) := by decide +kernel
theorem dz_2499 : decode cL_law 2499 = .ok (.iaload, 1) := by decide +kernel
theorem dz_2500 : decode cL_law 2500 = .ok (.invokevirtual 263, 3) := by decide +kernel
theorem dz_2503 : decode cL_law 2503 = .ok (.istore 6, 2) := by decide +kernel
theorem dz_2505 : decode cL_law 2505 = .ok (.aload_n 2, 1) := by decide +kernel
theorem dz_2506 : decode cL_law 2506 = .ok (.invokevirtual 137, 3) := by decide +kernel
theorem dz_2509 : decode cL_law 2509 = .ok (.iload 5, 2) := by decide +kernel
theorem dz_2511 : decode cL_law 2511 = .ok (.if_icmp .eq 5, 3) := by decide +kernel
theorem dz_2514 : decode cL_law 2514 = .ok (.iconst 0, 1) := by decide +kernel
theorem dz_2515 : decode cL_law 2515 = .ok (.ireturn, 1) := by decide +kernel
theorem dz_2516 : decode cL_law 2516 = .ok (.iload 5, 2) := by decide +kernel
theorem dz_2518 : decode cL_law 2518 = .ok (.ifCond .ne 15, 3) := by decide +kernel
theorem dz_2521 : decode cL_law 2521 = .ok (.aload_n 3, 1) := by decide +kernel
theorem dz_2522 : decode cL_law 2522 = .ok (.iconst 0, 1) := by decide +kernel
theorem dz_2523 : decode cL_law 2523 = .ok (.laload, 1) := by decide +kernel
theorem dz_2524 : decode cL_law 2524 = .ok (.iload 6, 2) := by decide +kernel
theorem dz_2526 : decode cL_law 2526 = .ok (.i2l, 1) := by decide +kernel
theorem dz_2527 : decode cL_law 2527 = .ok (.lcmp, 1) := by decide +kernel
theorem dz_2528 : decode cL_law 2528 = .ok (.ifCond .eq 5, 3) := by decide +kernel
theorem dz_2531 : decode cL_law 2531 = .ok (.iconst 0, 1) := by decide +kernel
theorem dz_2532 : decode cL_law 2532 = .ok (.ireturn, 1) := by decide +kernel
theorem dz_2533 : decode cL_law 2533 = .ok (.goto 83, 3) := by decide +kernel
def lst_conjugate (vl : Nat → Nat) (K : Nat) (x1 : Int32) (x2 : Int32) (x3 : Int32) (x4 : Int32) (x5 : Int32) (zc zm : ow_MS) : Option ow_LwS :=
 cs1 (le_L_conjugate vl K 0 x1 x2 zc) fun v2 zc1 => cs1 (qe_X13_conjugate K x1 x2 zm) fun v4 zm3 => cs1 (qe_X13_thrown K zm3) fun v6 zm5 => (if v6 = v2 then (if v2 = 0 then crJ (cX vl) zc1 52001 0 fun v7 => (if (lg_cmp v7 v4.toInt64) = 0 then some (vl, zc1, zm5)
 else none)
 else some (vl, zc1, zm5))
 else none)
set_option maxHeartbeats 4000000 in
set_option maxRecDepth 100000 in
theorem lxc_conjugate {p : Program} {l : Launch} {e : Env} {s : State} {m : MethodId} {args : Array Value} {below : List Frame} {meth : Method} {c : Code} {b L K n : Nat} {xs : Nat → Int32} {D : va_G} {q : Nat → ClassId} {q5 : ow_Q5} {vl u w sa : Nat → Nat} {zc zm : ow_MS} {S1 : ow_LwS} {Ts : List Cond} {Q : State → Prop} {H : Heap} {locs : List Loc} {ls : Array Slot} {cells slots : Nat} (hx : p.tables.exec = Jvm.exec) (hb : c.code = cL_law) (hml : c.maxLocals = 8) (hown : s.vm.findClass RL = some m.cls) (hts : ∀ w ∈ Ts, w.before args s = true) (hX : va_X b L xs s s.heap) (hbl : b < s.heap.size) (hZ : ∀ w ∈ wZ, w ∈ Ts) (hL1 : ∀ w ∈ wLL, w ∈ Ts) (hC1 : ∀ w ∈ wC, w ∈ Ts) (hM1 : ∀ w ∈ wM, w ∈ Ts) (hG : lx_G l s D q q5 sa) (hLn : L ≤ 3072) (hn : 6 * n + 6 ≤ L) (hq : lst_conjugate vl K (xs (6 * n + 1)) (xs (6 * n + 2)) (xs (6 * n + 3)) (xs (6 * n + 4)) (xs (6 * n + 5)) zc zm = some S1) (hM : lx_M D q q5 s vl u w zc zm H locs) (hl : lv_has ls 8 [(0, .ref b), (1, .ref (u 0)), (2, .ref (w 0)), (3, .ref (u 52001)), (4, .int (nI (6 * n)))]) (hc : cells + 4 ≤ 600002) (hs : slots + 24 ≤ 7302232) (kk : ∀ (zc1 zm1 : ow_MS) (H1 : Heap) (locs1 : List Loc) (ls1 : Array Slot), lx_M D q q5 s vl u w zc1 zm1 H1 locs1 → lv_has ls1 8 [(0, .ref b), (1, .ref (u 0)), (2, .ref (w 0)), (3, .ref (u 52001)), (4, .int (nI (6 * n)))] → some (vl, zc1, zm1) = some S1 → W p l e room_1 s m args below meth c H1 locs1 (cells + 4) (slots + 24) Q (F0 m 2616 ls1 [])) : W p l e room_1 s m args below meth c H locs cells slots Q (F0 m 2468 ls []) := by
  have hbA : ¬ lx_A s b := Nat.not_le.mpr hbl
  generalize e1 : xs (6 * n + 1) = x1 at hq
  generalize e2 : xs (6 * n + 2) = x2 at hq
  generalize e3 : xs (6 * n + 3) = x3 at hq
  generalize e4 : xs (6 * n + 4) = x4 at hq
  generalize e5 : xs (6 * n + 5) = x5 at hq
  unfold lst_conjugate at hq
  refine lv_aload_n hx hb dz_2468 rfl (lv_at hl 1 rfl) ?_
  refine lv_aload_n hx hb dz_2469 rfl (lv_at hl 0 rfl) ?_
  refine lv_iload hx hb dz_2470 (lv_at hl 4 rfl) ?_
  refine lv_iconst (v := 1) hx hb dz_2472 (by decide) ?_
  refine lv_iadd hx hb dz_2473 ?_
  refine ow_topi (y := nI (6 * n + 1)) (nI_add (6 * n) 1) ?_
  refine va_sld hx hb hX hbl hbA hM.2.2.2.2.2 (vp_in_nI (n := 6 * n + 1) (N := L) (by omega) (by omega)) dz_2474 ?_
  refine ow_topi (y := x1) ((congrArg xs (nI_clamp (by omega))).trans e1) ?_
  refine lv_aload_n hx hb dz_2475 rfl (lv_at hl 0 rfl) ?_
  refine lv_iload hx hb dz_2476 (lv_at hl 4 rfl) ?_
  refine lv_iconst (v := 2) hx hb dz_2478 (by decide) ?_
  refine lv_iadd hx hb dz_2479 ?_
  refine ow_topi (y := nI (6 * n + 2)) (nI_add (6 * n) 2) ?_
  refine va_sld hx hb hX hbl hbA hM.2.2.2.2.2 (vp_in_nI (n := 6 * n + 2) (N := L) (by omega) (by omega)) dz_2480 ?_
  refine ow_topi (y := x2) ((congrArg xs (nI_clamp (by omega))).trans e2) ?_
  refine lv_aload_n hx hb dz_2481 rfl (lv_at hl 3 rfl) ?_
  obtain ⟨v2, zc1, hcq, hq⟩ := tw_cl1 hq
  refine lx_wrap hM (vx_runSX (As := [.ref (u 0), .int x1, .int x2, .ref (u 52001)]) (rest := []) ⟨hx, hb, hml, hown, hts⟩ (kl_L_conjugate l D q vl u hM.2.2.1.1 hG.1 sa K 0 x1 x2 (by unfold cw_X11 ci_X11; exact List.mem_singleton.mpr rfl) zc zc1 v2 hcq) (vx_cwSW 4 hts (lx_gS (lx_all wLL_good rfl) (lx_mem hL1 (hZ _ zq_271)) (hZ _ zq_272) (hZ _ zq_273) (hZ _ zq_3) rfl rfl rfl) rfl rfl rfl (by decide +kernel) ⟨(Nat.le_of_ble_eq_true rfl), (Nat.le_of_ble_eq_true rfl)⟩) (lx_preL hG hM) rfl rfl hl.1 rfl (lv_room (Nat.le_of_ble_eq_true rfl)) dz_2482 ⟨(by show _ ≤ 600002; omega), (by show _ ≤ 7302232; omega)⟩) (fun H locs hM => ?_)
  refine lv_istore (lv' := [(5, .int v2), (0, .ref b), (1, .ref (u 0)), (2, .ref (w 0)), (3, .ref (u 52001)), (4, .int (nI (6 * n)))]) hx hb dz_2485 hl (by decide) rfl (fun ls hl => ?_)
  refine lv_aload_n hx hb dz_2487 rfl (lv_at hl 3 rfl) ?_
  refine lv_aload_n hx hb dz_2488 rfl (lv_at hl 1 rfl) ?_
  refine lv_iload hx hb dz_2489 (lv_at hl 5 rfl) ?_
  refine lv_iconst (v := 1) hx hb dz_2491 (by decide) ?_
  refine lv_iadd hx hb dz_2492 ?_
  refine ow_topi (y := nI (6 * n + 1)) (nI_add (6 * n) 1) ?_
  refine va_sld hx hb hX hbl hbA hM.2.2.2.2.2 (vp_in_nI (n := 6 * n + 1) (N := L) (by omega) (by omega)) dz_2493 ?_
  refine ow_topi (y := x1) ((congrArg xs (nI_clamp (by omega))).trans e1) ?_
  refine lv_aload_n hx hb dz_2494 rfl (lv_at hl 1 rfl) ?_
  refine lv_iload hx hb dz_2495 (lv_at hl 5 rfl) ?_
  refine lv_iconst (v := 2) hx hb dz_2497 (by decide) ?_
  refine lv_iadd hx hb dz_2498 ?_
  refine ow_topi (y := nI (6 * n + 2)) (nI_add (6 * n) 2) ?_
  refine va_sld hx hb hX hbl hbA hM.2.2.2.2.2 (vp_in_nI (n := 6 * n + 2) (N := L) (by omega) (by omega)) dz_2499 ?_
  refine ow_topi (y := x2) ((congrArg xs (nI_clamp (by omega))).trans e2) ?_
  obtain ⟨v4, zm3, hcq, hq⟩ := tw_cl1 hq
  refine lx_refi hM (va_runV (As := [.int x1, .int x2]) (rest := []) ⟨hx, hb, hml, hown, hts⟩ (km_X13_conjugate l D q5 w hM.2.2.2.1.1 K x1 x2 zm zm3 v4 hcq) (cwV 2 hts (lx_gV (lx_all wM_good rfl) (lx_mem hM1 (hZ _ zq_274)) (hZ _ zq_275) (hZ _ zq_276) (hZ _ zq_277) (hZ _ zq_8) rfl rfl rfl rfl) rfl rfl rfl cd_X13_conjugate ⟨(Nat.le_of_ble_eq_true rfl), (Nat.le_of_ble_eq_true rfl)⟩) (lx_preM hG hM) rfl rfl hl.1 rfl (lv_room (Nat.le_of_ble_eq_true rfl)) dz_2500 ⟨(by show _ ≤ 600002; omega), (by show _ ≤ 7302232; omega)⟩) (fun H locs hM => ?_)
  refine lv_istore (lv' := [(6, .int v4), (5, .int v2), (0, .ref b), (1, .ref (u 0)), (2, .ref (w 0)), (3, .ref (u 52001)), (4, .int (nI (6 * n)))]) hx hb dz_2503 hl (by decide) rfl (fun ls hl => ?_)
  refine lv_aload_n hx hb dz_2505 rfl (lv_at hl 4 rfl) ?_
  obtain ⟨v6, zm5, hcq, hq⟩ := tw_cl1 hq
  refine lx_refi hM (va_runV (As := []) (rest := []) ⟨hx, hb, hml, hown, hts⟩ (km_X13_thrown l D q5 w hM.2.2.2.1.1 K zm3 zm5 v6 hcq) (cwV 0 hts (lx_gV (lx_all wM_good rfl) (lx_mem hM1 (hZ _ zq_9)) (hZ _ zq_10) (hZ _ zq_11) (hZ _ zq_12) (hZ _ zq_8) rfl rfl rfl rfl) rfl rfl rfl cd_X13_thrown ⟨(Nat.le_of_ble_eq_true rfl), (Nat.le_of_ble_eq_true rfl)⟩) (lx_preM hG hM) rfl rfl hl.1 rfl (lv_room (Nat.le_of_ble_eq_true rfl)) dz_2506 ⟨(by show _ ≤ 600002; omega), (by show _ ≤ 7302232; omega)⟩) (fun H locs hM => ?_)
  refine lv_iload hx hb dz_2509 (lv_at hl 1 rfl) ?_
  refine lv_icmp_eq (tgt := 2516) hx hb dz_2511 (by decide) (fun hc9 => ?_) (fun hc9 => ?_)
  · have hq := tw_it hq hc9
    refine lv_iload hx hb dz_2516 (lv_at hl 1 rfl) ?_
    refine lv_if_ne (tgt := 2533) hx hb dz_2518 (by decide) (fun hc9 => ?_) (fun hc9 => ?_)
    · have hq := tw_if hq hc9
      refine lv_goto (tgt := 2616) hx hb dz_2533 (by decide) ?_
      exact kk _ _ H locs ls hM (lv_sub hl [2, 3, 4, 5, 6] rfl) hq
    · have hq := tw_it hq hc9
      refine lv_aload_n hx hb dz_2521 rfl (lv_at hl 5 rfl) ?_
      refine lv_iconst (v := 0) hx hb dz_2522 (by decide) ?_
      refine uw_lald (A := lx_A s) (H0 := s.heap) cX_ok hx hb hG.2.1 ⟨hM.1, hM.2.2.2.2.2⟩ cr_out hq dz_2523 (fun v7 hq => ?_)
      refine lv_iload hx hb dz_2524 (lv_at hl 0 rfl) ?_
      refine lv_i2l hx hb dz_2526 rfl ?_
      refine W.lcmp hx hb dz_2527 ?_
      refine lv_if_eq (tgt := 2533) hx hb dz_2528 (by decide) (fun hc9 => ?_) (fun hc9 => ?_)
      · have hq := tw_it hq hc9
        refine lv_goto (tgt := 2616) hx hb dz_2533 (by decide) ?_
        exact kk _ _ H locs ls hM (lv_sub hl [2, 3, 4, 5, 6] rfl) hq
      · have hq := tw_if hq hc9
        refine lv_iconst (v := 0) hx hb dz_2531 (by decide) ?_
        exact cw_no hq
  · have hq := tw_if hq hc9
    refine lv_iconst (v := 0) hx hb dz_2514 (by decide) ?_
    exact cw_no hq
theorem dz_2536 : decode cL_law 2536 = .ok (.aload_n 1, 1) := by decide +kernel
theorem dz_2537 : decode cL_law 2537 = .ok (.aload_n 0, 1) := by decide +kernel
theorem dz_2538 : decode cL_law 2538 = .ok (.iload 4, 2) := by decide +kernel
theorem dz_2540 : decode cL_law 2540 = .ok (.iconst 1, 1) := by decide +kernel
theorem dz_2541 : decode cL_law 2541 = .ok (.iadd, 1) := by decide +kernel
theorem dz_2542 : decode cL_law 2542 = .ok (.iaload, 1) := by decide +kernel
theorem dz_2543 : decode cL_law 2543 = .ok (.aload_n 0, 1) := by decide +kernel
theorem dz_2544 : decode cL_law 2544 = .ok (.iload 4, 2) := by decide +kernel
theorem dz_2546 : decode cL_law 2546 = .ok (.iconst 2, 1) := by decide +kernel
theorem dz_2547 : decode cL_law 2547 = .ok (.iadd, 1) := by decide +kernel
theorem dz_2548 : decode cL_law 2548 = .ok (.iaload, 1) := by decide +kernel
theorem dz_2549 : decode cL_law 2549 = .ok (.aload_n 0, 1) := by decide +kernel
theorem dz_2550 : decode cL_law 2550 = .ok (.iload 4, 2) := by decide +kernel
theorem dz_2552 : decode cL_law 2552 = .ok (.iconst 3, 1) := by decide +kernel
theorem dz_2553 : decode cL_law 2553 = .ok (.iadd, 1) := by decide +kernel
theorem dz_2554 : decode cL_law 2554 = .ok (.iaload, 1) := by decide +kernel
theorem dz_2555 : decode cL_law 2555 = .ok (.aload_n 3, 1) := by decide +kernel
theorem dz_2556 : decode cL_law 2556 = .ok (.invokestatic 264, 3) := by decide +kernel
theorem dz_2559 : decode cL_law 2559 = .ok (.istore 5, 2) := by decide +kernel
theorem dz_2561 : decode cL_law 2561 = .ok (.aload_n 2, 1) := by decide +kernel
theorem dz_2562 : decode cL_law 2562 = .ok (.aload_n 0, 1) := by decide +kernel
theorem dz_2563 : decode cL_law 2563 = .ok (.iload 4, 2) := by decide +kernel
theorem dz_2565 : decode cL_law 2565 = .ok (.iconst 1, 1) := by decide +kernel
theorem dz_2566 : decode cL_law 2566 = .ok (.iadd, 1) := by decide +kernel
theorem dz_2567 : decode cL_law 2567 = .ok (.iaload, 1) := by decide +kernel
theorem dz_2568 : decode cL_law 2568 = .ok (.aload_n 0, 1) := by decide +kernel
theorem dz_2569 : decode cL_law 2569 = .ok (.iload 4, 2) := by decide +kernel
theorem dz_2571 : decode cL_law 2571 = .ok (.iconst 2, 1) := by decide +kernel
theorem dz_2572 : decode cL_law 2572 = .ok (.iadd, 1) := by decide +kernel
theorem dz_2573 : decode cL_law 2573 = .ok (.iaload, 1) := by decide +kernel
theorem dz_2574 : decode cL_law 2574 = .ok (.aload_n 0, 1) := by decide +kernel
theorem dz_2575 : decode cL_law 2575 = .ok (.iload 4, 2) := by decide +kernel
theorem dz_2577 : decode cL_law 2577 = .ok (.iconst 3, 1) := by decide +kernel
theorem dz_2578 : decode cL_law 2578 = .ok (.iadd, 1) := by decide +kernel
theorem dz_2579 : decode cL_law 2579 = .ok (.iaload, 1) := by decide +kernel
theorem dz_2580 : decode cL_law 2580 = .ok (.invokevirtual 266, 3) := by decide +kernel
theorem dz_2583 : decode cL_law 2583 = .ok (.istore 6, 2) := by decide +kernel
theorem dz_2585 : decode cL_law 2585 = .ok (.aload_n 2, 1) := by decide +kernel
theorem dz_2586 : decode cL_law 2586 = .ok (.invokevirtual 137, 3) := by decide +kernel
theorem dz_2589 : decode cL_law 2589 = .ok (.iload 5, 2) := by decide +kernel
theorem dz_2591 : decode cL_law 2591 = .ok (.if_icmp .eq 5, 3) := by decide +kernel
theorem dz_2594 : decode cL_law 2594 = .ok (.iconst 0, 1) := by decide +kernel
theorem dz_2595 : decode cL_law 2595 = .ok (.ireturn, 1) := by decide +kernel
theorem dz_2596 : decode cL_law 2596 = .ok (.iload 5, 2) := by decide +kernel
theorem dz_2598 : decode cL_law 2598 = .ok (.ifCond .ne 15, 3) := by decide +kernel
theorem dz_2601 : decode cL_law 2601 = .ok (.aload_n 3, 1) := by decide +kernel
theorem dz_2602 : decode cL_law 2602 = .ok (.iconst 0, 1) := by decide +kernel
theorem dz_2603 : decode cL_law 2603 = .ok (.laload, 1) := by decide +kernel
theorem dz_2604 : decode cL_law 2604 = .ok (.iload 6, 2) := by decide +kernel
theorem dz_2606 : decode cL_law 2606 = .ok (.i2l, 1) := by decide +kernel
theorem dz_2607 : decode cL_law 2607 = .ok (.lcmp, 1) := by decide +kernel
theorem dz_2608 : decode cL_law 2608 = .ok (.ifCond .eq 5, 3) := by decide +kernel
theorem dz_2611 : decode cL_law 2611 = .ok (.iconst 0, 1) := by decide +kernel
theorem dz_2612 : decode cL_law 2612 = .ok (.ireturn, 1) := by decide +kernel
theorem dz_2613 : decode cL_law 2613 = .ok (.goto 3, 3) := by decide +kernel
def lst_two (vl : Nat → Nat) (K : Nat) (x1 : Int32) (x2 : Int32) (x3 : Int32) (x4 : Int32) (x5 : Int32) (zc zm : ow_MS) : Option ow_LwS :=
 cs1 (le_L_two vl K 0 x1 x2 x3 zc) fun v2 zc1 => cs1 (qe_X13_two K x1 x2 x3 zm) fun v4 zm3 => cs1 (qe_X13_thrown K zm3) fun v6 zm5 => (if v6 = v2 then (if v2 = 0 then crJ (cX vl) zc1 52001 0 fun v7 => (if (lg_cmp v7 v4.toInt64) = 0 then some (vl, zc1, zm5)
 else none)
 else some (vl, zc1, zm5))
 else none)
set_option maxHeartbeats 4000000 in
set_option maxRecDepth 100000 in
theorem lxc_two {p : Program} {l : Launch} {e : Env} {s : State} {m : MethodId} {args : Array Value} {below : List Frame} {meth : Method} {c : Code} {b L K n : Nat} {xs : Nat → Int32} {D : va_G} {q : Nat → ClassId} {q5 : ow_Q5} {vl u w sa : Nat → Nat} {zc zm : ow_MS} {S1 : ow_LwS} {Ts : List Cond} {Q : State → Prop} {H : Heap} {locs : List Loc} {ls : Array Slot} {cells slots : Nat} (hx : p.tables.exec = Jvm.exec) (hb : c.code = cL_law) (hml : c.maxLocals = 8) (hown : s.vm.findClass RL = some m.cls) (hts : ∀ w ∈ Ts, w.before args s = true) (hX : va_X b L xs s s.heap) (hbl : b < s.heap.size) (hZ : ∀ w ∈ wZ, w ∈ Ts) (hL1 : ∀ w ∈ wLL, w ∈ Ts) (hC1 : ∀ w ∈ wC, w ∈ Ts) (hM1 : ∀ w ∈ wM, w ∈ Ts) (hG : lx_G l s D q q5 sa) (hLn : L ≤ 3072) (hn : 6 * n + 6 ≤ L) (hq : lst_two vl K (xs (6 * n + 1)) (xs (6 * n + 2)) (xs (6 * n + 3)) (xs (6 * n + 4)) (xs (6 * n + 5)) zc zm = some S1) (hM : lx_M D q q5 s vl u w zc zm H locs) (hl : lv_has ls 8 [(0, .ref b), (1, .ref (u 0)), (2, .ref (w 0)), (3, .ref (u 52001)), (4, .int (nI (6 * n)))]) (hc : cells + 2 ≤ 600002) (hs : slots + 12 ≤ 7302232) (kk : ∀ (zc1 zm1 : ow_MS) (H1 : Heap) (locs1 : List Loc) (ls1 : Array Slot), lx_M D q q5 s vl u w zc1 zm1 H1 locs1 → lv_has ls1 8 [(0, .ref b), (1, .ref (u 0)), (2, .ref (w 0)), (3, .ref (u 52001)), (4, .int (nI (6 * n)))] → some (vl, zc1, zm1) = some S1 → W p l e room_1 s m args below meth c H1 locs1 (cells + 2) (slots + 12) Q (F0 m 2616 ls1 [])) : W p l e room_1 s m args below meth c H locs cells slots Q (F0 m 2536 ls []) := by
  have hbA : ¬ lx_A s b := Nat.not_le.mpr hbl
  generalize e1 : xs (6 * n + 1) = x1 at hq
  generalize e2 : xs (6 * n + 2) = x2 at hq
  generalize e3 : xs (6 * n + 3) = x3 at hq
  generalize e4 : xs (6 * n + 4) = x4 at hq
  generalize e5 : xs (6 * n + 5) = x5 at hq
  unfold lst_two at hq
  refine lv_aload_n hx hb dz_2536 rfl (lv_at hl 1 rfl) ?_
  refine lv_aload_n hx hb dz_2537 rfl (lv_at hl 0 rfl) ?_
  refine lv_iload hx hb dz_2538 (lv_at hl 4 rfl) ?_
  refine lv_iconst (v := 1) hx hb dz_2540 (by decide) ?_
  refine lv_iadd hx hb dz_2541 ?_
  refine ow_topi (y := nI (6 * n + 1)) (nI_add (6 * n) 1) ?_
  refine va_sld hx hb hX hbl hbA hM.2.2.2.2.2 (vp_in_nI (n := 6 * n + 1) (N := L) (by omega) (by omega)) dz_2542 ?_
  refine ow_topi (y := x1) ((congrArg xs (nI_clamp (by omega))).trans e1) ?_
  refine lv_aload_n hx hb dz_2543 rfl (lv_at hl 0 rfl) ?_
  refine lv_iload hx hb dz_2544 (lv_at hl 4 rfl) ?_
  refine lv_iconst (v := 2) hx hb dz_2546 (by decide) ?_
  refine lv_iadd hx hb dz_2547 ?_
  refine ow_topi (y := nI (6 * n + 2)) (nI_add (6 * n) 2) ?_
  refine va_sld hx hb hX hbl hbA hM.2.2.2.2.2 (vp_in_nI (n := 6 * n + 2) (N := L) (by omega) (by omega)) dz_2548 ?_
  refine ow_topi (y := x2) ((congrArg xs (nI_clamp (by omega))).trans e2) ?_
  refine lv_aload_n hx hb dz_2549 rfl (lv_at hl 0 rfl) ?_
  refine lv_iload hx hb dz_2550 (lv_at hl 4 rfl) ?_
  refine lv_iconst (v := 3) hx hb dz_2552 (by decide) ?_
  refine lv_iadd hx hb dz_2553 ?_
  refine ow_topi (y := nI (6 * n + 3)) (nI_add (6 * n) 3) ?_
  refine va_sld hx hb hX hbl hbA hM.2.2.2.2.2 (vp_in_nI (n := 6 * n + 3) (N := L) (by omega) (by omega)) dz_2554 ?_
  refine ow_topi (y := x3) ((congrArg xs (nI_clamp (by omega))).trans e3) ?_
  refine lv_aload_n hx hb dz_2555 rfl (lv_at hl 3 rfl) ?_
  obtain ⟨v2, zc1, hcq, hq⟩ := tw_cl1 hq
  refine lx_wrap hM (vx_runSX (As := [.ref (u 0), .int x1, .int x2, .int x3, .ref (u 52001)]) (rest := []) ⟨hx, hb, hml, hown, hts⟩ (kl_L_two l D q vl u hM.2.2.1.1 hG.1 sa K 0 x1 x2 x3 (by unfold cw_X11 ci_X11; exact List.mem_singleton.mpr rfl) zc zc1 v2 hcq) (vx_cwSW 5 hts (lx_gS (lx_all wLL_good rfl) (lx_mem hL1 (hZ _ zq_278)) (hZ _ zq_279) (hZ _ zq_280) (hZ _ zq_3) rfl rfl rfl) rfl rfl rfl (by decide +kernel) ⟨(Nat.le_of_ble_eq_true rfl), (Nat.le_of_ble_eq_true rfl)⟩) (lx_preL hG hM) rfl rfl hl.1 rfl (lv_room (Nat.le_of_ble_eq_true rfl)) dz_2556 ⟨(by show _ ≤ 600002; omega), (by show _ ≤ 7302232; omega)⟩) (fun H locs hM => ?_)
  refine lv_istore (lv' := [(5, .int v2), (0, .ref b), (1, .ref (u 0)), (2, .ref (w 0)), (3, .ref (u 52001)), (4, .int (nI (6 * n)))]) hx hb dz_2559 hl (by decide) rfl (fun ls hl => ?_)
  refine lv_aload_n hx hb dz_2561 rfl (lv_at hl 3 rfl) ?_
  refine lv_aload_n hx hb dz_2562 rfl (lv_at hl 1 rfl) ?_
  refine lv_iload hx hb dz_2563 (lv_at hl 5 rfl) ?_
  refine lv_iconst (v := 1) hx hb dz_2565 (by decide) ?_
  refine lv_iadd hx hb dz_2566 ?_
  refine ow_topi (y := nI (6 * n + 1)) (nI_add (6 * n) 1) ?_
  refine va_sld hx hb hX hbl hbA hM.2.2.2.2.2 (vp_in_nI (n := 6 * n + 1) (N := L) (by omega) (by omega)) dz_2567 ?_
  refine ow_topi (y := x1) ((congrArg xs (nI_clamp (by omega))).trans e1) ?_
  refine lv_aload_n hx hb dz_2568 rfl (lv_at hl 1 rfl) ?_
  refine lv_iload hx hb dz_2569 (lv_at hl 5 rfl) ?_
  refine lv_iconst (v := 2) hx hb dz_2571 (by decide) ?_
  refine lv_iadd hx hb dz_2572 ?_
  refine ow_topi (y := nI (6 * n + 2)) (nI_add (6 * n) 2) ?_
  refine va_sld hx hb hX hbl hbA hM.2.2.2.2.2 (vp_in_nI (n := 6 * n + 2) (N := L) (by omega) (by omega)) dz_2573 ?_
  refine ow_topi (y := x2) ((congrArg xs (nI_clamp (by omega))).trans e2) ?_
  refine lv_aload_n hx hb dz_2574 rfl (lv_at hl 1 rfl) ?_
  refine lv_iload hx hb dz_2575 (lv_at hl 5 rfl) ?_
  refine lv_iconst (v := 3) hx hb dz_2577 (by decide) ?_
  refine lv_iadd hx hb dz_2578 ?_
  refine ow_topi (y := nI (6 * n + 3)) (nI_add (6 * n) 3) ?_
  refine va_sld hx hb hX hbl hbA hM.2.2.2.2.2 (vp_in_nI (n := 6 * n + 3) (N := L) (by omega) (by omega)) dz_2579 ?_
  refine ow_topi (y := x3) ((congrArg xs (nI_clamp (by omega))).trans e3) ?_
  obtain ⟨v4, zm3, hcq, hq⟩ := tw_cl1 hq
  refine lx_refi hM (va_runV (As := [.int x1, .int x2, .int x3]) (rest := []) ⟨hx, hb, hml, hown, hts⟩ (km_X13_two l D q5 w hM.2.2.2.1.1 K x1 x2 x3 zm zm3 v4 hcq) (cwV 3 hts (lx_gV (lx_all wM_good rfl) (lx_mem hM1 (hZ _ zq_281)) (hZ _ zq_282) (hZ _ zq_283) (hZ _ zq_284) (hZ _ zq_8) rfl rfl rfl rfl) rfl rfl rfl cd_X13_two ⟨(Nat.le_of_ble_eq_true rfl), (Nat.le_of_ble_eq_true rfl)⟩) (lx_preM hG hM) rfl rfl hl.1 rfl (lv_room (Nat.le_of_ble_eq_true rfl)) dz_2580 ⟨(by show _ ≤ 600002; omega), (by show _ ≤ 7302232; omega)⟩) (fun H locs hM => ?_)
  refine lv_istore (lv' := [(6, .int v4), (5, .int v2), (0, .ref b), (1, .ref (u 0)), (2, .ref (w 0)), (3, .ref (u 52001)), (4, .int (nI (6 * n)))]) hx hb dz_2583 hl (by decide) rfl (fun ls hl => ?_)
  refine lv_aload_n hx hb dz_2585 rfl (lv_at hl 4 rfl) ?_
  obtain ⟨v6, zm5, hcq, hq⟩ := tw_cl1 hq
  refine lx_refi hM (va_runV (As := []) (rest := []) ⟨hx, hb, hml, hown, hts⟩ (km_X13_thrown l D q5 w hM.2.2.2.1.1 K zm3 zm5 v6 hcq) (cwV 0 hts (lx_gV (lx_all wM_good rfl) (lx_mem hM1 (hZ _ zq_9)) (hZ _ zq_10) (hZ _ zq_11) (hZ _ zq_12) (hZ _ zq_8) rfl rfl rfl rfl) rfl rfl rfl cd_X13_thrown ⟨(Nat.le_of_ble_eq_true rfl), (Nat.le_of_ble_eq_true rfl)⟩) (lx_preM hG hM) rfl rfl hl.1 rfl (lv_room (Nat.le_of_ble_eq_true rfl)) dz_2586 ⟨(by show _ ≤ 600002; omega), (by show _ ≤ 7302232; omega)⟩) (fun H locs hM => ?_)
  refine lv_iload hx hb dz_2589 (lv_at hl 1 rfl) ?_
  refine lv_icmp_eq (tgt := 2596) hx hb dz_2591 (by decide) (fun hc9 => ?_) (fun hc9 => ?_)
  · have hq := tw_it hq hc9
    refine lv_iload hx hb dz_2596 (lv_at hl 1 rfl) ?_
    refine lv_if_ne (tgt := 2613) hx hb dz_2598 (by decide) (fun hc9 => ?_) (fun hc9 => ?_)
    · have hq := tw_if hq hc9
      refine lv_goto (tgt := 2616) hx hb dz_2613 (by decide) ?_
      exact kk _ _ H locs ls hM (lv_sub hl [2, 3, 4, 5, 6] rfl) hq
    · have hq := tw_it hq hc9
      refine lv_aload_n hx hb dz_2601 rfl (lv_at hl 5 rfl) ?_
      refine lv_iconst (v := 0) hx hb dz_2602 (by decide) ?_
      refine uw_lald (A := lx_A s) (H0 := s.heap) cX_ok hx hb hG.2.1 ⟨hM.1, hM.2.2.2.2.2⟩ cr_out hq dz_2603 (fun v7 hq => ?_)
      refine lv_iload hx hb dz_2604 (lv_at hl 0 rfl) ?_
      refine lv_i2l hx hb dz_2606 rfl ?_
      refine W.lcmp hx hb dz_2607 ?_
      refine lv_if_eq (tgt := 2613) hx hb dz_2608 (by decide) (fun hc9 => ?_) (fun hc9 => ?_)
      · have hq := tw_it hq hc9
        refine lv_goto (tgt := 2616) hx hb dz_2613 (by decide) ?_
        exact kk _ _ H locs ls hM (lv_sub hl [2, 3, 4, 5, 6] rfl) hq
      · have hq := tw_if hq hc9
        refine lv_iconst (v := 0) hx hb dz_2611 (by decide) ?_
        exact cw_no hq
  · have hq := tw_if hq hc9
    refine lv_iconst (v := 0) hx hb dz_2594 (by decide) ?_
    exact cw_no hq
