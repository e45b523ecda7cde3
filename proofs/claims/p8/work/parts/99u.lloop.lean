theorem dz_23 : decode cL_law 23 = .ok (.iload 4, 2) := dw_at cL_law_k0 (p := 23) rfl (by decide +kernel)
theorem dz_25 : decode cL_law 25 = .ok (.aload_n 0, 1) := dw_at cL_law_k1 (p := 0) rfl (by decide +kernel)
theorem dz_26 : decode cL_law 26 = .ok (.arraylength, 1) := dw_at cL_law_k1 (p := 1) rfl (by decide +kernel)
theorem dz_27 : decode cL_law 27 = .ok (.bipush 6, 2) := dw_at cL_law_k1 (p := 2) rfl (by decide +kernel)
theorem dz_29 : decode cL_law 29 = .ok (.isub, 1) := dw_at cL_law_k1 (p := 4) rfl (by decide +kernel)
theorem dz_30 : decode cL_law 30 = .ok (.if_icmp .gt 1686, 3) := dw_at cL_law_k1 (p := 5) rfl (by decide +kernel)
theorem dz_33 : decode cL_law 33 = .ok (.aload_n 0, 1) := dw_at cL_law_k1 (p := 8) rfl (by decide +kernel)
theorem dz_34 : decode cL_law 34 = .ok (.iload 4, 2) := dw_at cL_law_k1 (p := 9) rfl (by decide +kernel)
theorem dz_36 : decode cL_law 36 = .ok (.iaload, 1) := dw_at cL_law_k1 (p := 11) rfl (by decide +kernel)
theorem dz_37 : decode cL_law 37 = .ok (.bipush 63, 2) := dw_at cL_law_k1 (p := 12) rfl (by decide +kernel)
theorem dz_39 : decode cL_law 39 = .ok (.iand, 1) := dw_at cL_law_k1 (p := 14) rfl (by decide +kernel)
theorem dz_40 : decode cL_law 40 = .ok (.tableswitch 1670 0 38 #[172, 248, 273, 289, 317, 342, 367, 435, 487, 539, 576, 604, 644, 684, 724, 764, 828, 868, 896, 924, 964, 992, 1020, 1060, 1100, 1128, 1168, 1208, 1248, 1288, 1325, 1353, 1393, 1421, 1461, 1513, 1550, 1578, 1618], 172) := by decide +kernel
theorem dz_1710 : decode cL_law 1710 = .ok (.iinc 4 6, 3) := dw_at cL_law_k3 (p := 0) rfl (by decide +kernel)
theorem dz_1713 : decode cL_law 1713 = .ok (.goto (-1690), 3) := dw_at cL_law_k3 (p := 3) rfl (by decide +kernel)
/-- one call of the script: none where the answers differ -/
def ltstep (K : Nat) (x0 x1 x2 x3 x4 x5 : Int32) (S : ow_LwS) : Option ow_LwS := if (x0 &&& 63).toInt < 0 ∨ 38 < (x0 &&& 63).toInt then some S
 else if x0 &&& 63 = 0 then ltp_feed S.1 K x1 x2 x3 x4 x5 S.2.1 S.2.2
 else if x0 &&& 63 = 1 then ltp_end S.1 K x1 x2 x3 x4 x5 S.2.1 S.2.2
 else if x0 &&& 63 = 2 then ltp_diagram S.1 K x1 x2 x3 x4 x5 S.2.1 S.2.2
 else if x0 &&& 63 = 3 then ltp_braid S.1 K x1 x2 x3 x4 x5 S.2.1 S.2.2
 else if x0 &&& 63 = 4 then ltp_drop S.1 K x1 x2 x3 x4 x5 S.2.1 S.2.2
 else if x0 &&& 63 = 5 then ltp_dropBraid S.1 K x1 x2 x3 x4 x5 S.2.1 S.2.2
 else if x0 &&& 63 = 6 then ltp_figure S.1 K x1 x2 x3 x4 x5 S.2.1 S.2.2
 else if x0 &&& 63 = 7 then ltp_visit S.1 K x1 x2 x3 x4 x5 S.2.1 S.2.2
 else if x0 &&& 63 = 8 then ltp_linking S.1 K x1 x2 x3 x4 x5 S.2.1 S.2.2
 else if x0 &&& 63 = 9 then ltp_alike S.1 K x1 x2 x3 x4 x5 S.2.1 S.2.2
 else if x0 &&& 63 = 10 then ltp_mirror S.1 K x1 x2 x3 x4 x5 S.2.1 S.2.2
 else if x0 &&& 63 = 11 then ltp_reverse S.1 K x1 x2 x3 x4 x5 S.2.1 S.2.2
 else if x0 &&& 63 = 12 then ltp_change S.1 K x1 x2 x3 x4 x5 S.2.1 S.2.2
 else if x0 &&& 63 = 13 then ltp_smooth S.1 K x1 x2 x3 x4 x5 S.2.1 S.2.2
 else if x0 &&& 63 = 14 then ltp_apart S.1 K x1 x2 x3 x4 x5 S.2.1 S.2.2
 else if x0 &&& 63 = 15 then ltp_join S.1 K x1 x2 x3 x4 x5 S.2.1 S.2.2
 else if x0 &&& 63 = 16 then ltp_moves S.1 K x1 x2 x3 x4 x5 S.2.1 S.2.2
 else if x0 &&& 63 = 17 then ltp_moved S.1 K x1 x2 x3 x4 x5 S.2.1 S.2.2
 else if x0 &&& 63 = 18 then ltp_simplify S.1 K x1 x2 x3 x4 x5 S.2.1 S.2.2
 else if x0 &&& 63 = 19 then ltp_way S.1 K x1 x2 x3 x4 x5 S.2.1 S.2.2
 else if x0 &&& 63 = 20 then ltp_summands S.1 K x1 x2 x3 x4 x5 S.2.1 S.2.2
 else if x0 &&& 63 = 21 then ltp_summand S.1 K x1 x2 x3 x4 x5 S.2.1 S.2.2
 else if x0 &&& 63 = 22 then ltp_conway S.1 K x1 x2 x3 x4 x5 S.2.1 S.2.2
 else if x0 &&& 63 = 23 then ltp_jones S.1 K x1 x2 x3 x4 x5 S.2.1 S.2.2
 else if x0 &&& 63 = 24 then ltp_signature S.1 K x1 x2 x3 x4 x5 S.2.1 S.2.2
 else if x0 &&& 63 = 25 then ltp_cover S.1 K x1 x2 x3 x4 x5 S.2.1 S.2.2
 else if x0 &&& 63 = 26 then ltp_colours S.1 K x1 x2 x3 x4 x5 S.2.1 S.2.2
 else if x0 &&& 63 = 27 then ltp_maps S.1 K x1 x2 x3 x4 x5 S.2.1 S.2.2
 else if x0 &&& 63 = 28 then ltp_chain S.1 K x1 x2 x3 x4 x5 S.2.1 S.2.2
 else if x0 &&& 63 = 29 then ltp_rank S.1 K x1 x2 x3 x4 x5 S.2.1 S.2.2
 else if x0 &&& 63 = 30 then ltp_closure S.1 K x1 x2 x3 x4 x5 S.2.1 S.2.2
 else if x0 &&& 63 = 31 then ltp_product S.1 K x1 x2 x3 x4 x5 S.2.1 S.2.2
 else if x0 &&& 63 = 32 then ltp_inverse S.1 K x1 x2 x3 x4 x5 S.2.1 S.2.2
 else if x0 &&& 63 = 33 then ltp_normal S.1 K x1 x2 x3 x4 x5 S.2.1 S.2.2
 else if x0 &&& 63 = 34 then ltp_factor S.1 K x1 x2 x3 x4 x5 S.2.1 S.2.2
 else if x0 &&& 63 = 35 then ltp_equal S.1 K x1 x2 x3 x4 x5 S.2.1 S.2.2
 else if x0 &&& 63 = 36 then ltp_summit S.1 K x1 x2 x3 x4 x5 S.2.1 S.2.2
 else if x0 &&& 63 = 37 then ltp_conjugate S.1 K x1 x2 x3 x4 x5 S.2.1 S.2.2
 else if x0 &&& 63 = 38 then ltp_two S.1 K x1 x2 x3 x4 x5 S.2.1 S.2.2
 else none
def ltrun (K : Nat) (xs : Nat → Int32) : Nat → Nat → ow_LwS → Option ow_LwS
  | 0, _, S => some S
  | k + 1, n, S => match ltstep K (xs (6 * n)) (xs (6 * n + 1)) (xs (6 * n + 2)) (xs (6 * n + 3)) (xs (6 * n + 4)) (xs (6 * n + 5)) S with
    | none => none
    | some S1 => if dPhi S.1 ≤ dPhi S1.1 ∧ dPhi S1.1 ≤ 2800000 then ltrun K xs k (n + 1) S1 else none
theorem ltrun_succ {K : Nat} {xs : Nat → Int32} {k n : Nat} {S SE : ow_LwS} (h : ltrun K xs (k + 1) n S = some SE) : ∃ S1, ltstep K (xs (6 * n)) (xs (6 * n + 1)) (xs (6 * n + 2)) (xs (6 * n + 3)) (xs (6 * n + 4)) (xs (6 * n + 5)) S = some S1 ∧ dPhi S.1 ≤ dPhi S1.1 ∧ dPhi S1.1 ≤ 2800000 ∧ ltrun K xs k (n + 1) S1 = some SE := by
  rw [ltrun] at h
  cases hs : ltstep K (xs (6 * n)) (xs (6 * n + 1)) (xs (6 * n + 2)) (xs (6 * n + 3)) (xs (6 * n + 4)) (xs (6 * n + 5)) S with
  | none => rw [hs] at h; cases h
  | some S1 =>
    rw [hs] at h
    have h2 : (if dPhi S.1 ≤ dPhi S1.1 ∧ dPhi S1.1 ≤ 2800000 then ltrun K xs k (n + 1) S1 else none) = some SE := h
    obtain ⟨h3, h4⟩ := tw_gd h2
    exact ⟨S1, rfl, h3.1, h3.2, h4⟩
theorem ltp_chain_vl {vl : Nat → Nat} {K : Nat} {x1 x2 x3 x4 x5 : Int32} {zc zm : ow_MS} {S1 : ow_LwS} (h : ltp_chain vl K x1 x2 x3 x4 x5 zc zm = some S1) {r : Int32} {v : Nat → Nat} {z1 : ow_MS} (hc : le_L_chain vl K 0 x1 x2 zc = some (r, v, z1)) : S1.1 = v := by
  unfold ltp_chain at h
  rw [hc] at h
  obtain ⟨r2, v2, z2, e1, h⟩ := dd_dc1 h
  obtain ⟨rfl, e2⟩ := Prod.mk.inj (Option.some.inj e1)
  obtain ⟨rfl, rfl⟩ := Prod.mk.inj e2
  obtain ⟨b, zm1, _, h⟩ := tw_cl1 h
  exact (congrArg Prod.fst (Option.some.inj h)).symm
theorem lx_cmp {L n : Nat} (hL : L ≤ 3072) (hn : 6 * n ≤ L) : nI L - 6 < nI (6 * n) ↔ L < 6 * n + 6 := by
  by_cases h6 : 6 ≤ L
  · have e : nI L - 6 = nI (L - 6) := by
      have h1 : nI L = nI (L - 6) + 6 := by
        rw [show nI (L - 6) + 6 = nI (L - 6 + 6) from nI_add (L - 6) 6]
        congr 1
        omega
      rw [h1]
      exact Int32.add_sub_cancel _ _
    rw [e, nI_ltI (by omega) (by omega)]
    omega
  · have hn0 : n = 0 := by omega
    subst hn0
    have : L = 0 ∨ L = 1 ∨ L = 2 ∨ L = 3 ∨ L = 4 ∨ L = 5 := by omega
    rcases this with rfl | rfl | rfl | rfl | rfl | rfl <;> simp <;> decide

set_option maxHeartbeats 4000000 in
set_option maxRecDepth 100000 in
theorem lx_loop {p : Program} {l : Launch} {e : Env} {s : State} {m : MethodId} {args : Array Value} {below : List Frame} {meth : Method} {c : Code} {b L K : Nat} {xs : Nat → Int32} {D : va_G} {q : Nat → ClassId} {q5 : ow_Q5} {w sa : Nat → Nat} {Ts : List Cond} {Q : State → Prop} {C0 Z0 : Nat} {vl0 : Nat → Nat} (hx : p.tables.exec = Jvm.exec) (hb : c.code = cL_law) (hml : c.maxLocals = 8) (hown : s.vm.findClass RL = some m.cls) (hts : ∀ w ∈ Ts, w.before args s = true) (hX : va_X b L xs s s.heap) (hbl : b < s.heap.size) (hZ : ∀ w ∈ wZ, w ∈ Ts) (hL1 : ∀ w ∈ wLL, w ∈ Ts) (hC1 : ∀ w ∈ wC, w ∈ Ts) (hM1 : ∀ w ∈ wM, w ∈ Ts) (hG : lx_G l s D q q5 sa) (hLn : L ≤ 3072) (hC0 : C0 ≤ 500000) (hZ0 : Z0 ≤ 1600000) (fin : ∀ (H : Heap) (locs : List Loc) (ls : Array Slot) (cells slots : Nat), va_S (lx_A s) s.heap H locs → cells ≤ 601024 → slots ≤ 7293033 → W p l e room_1 s m args below meth c H locs cells slots Q (F0 m 1716 ls [])) : ∀ (k n : Nat) (S SE : ow_LwS) (u : Nat → Nat) (H : Heap) (locs : List Loc) (ls : Array Slot) (cells slots : Nat), 6 * (n + k) ≤ L → L < 6 * (n + k) + 6 → ltrun K xs k n S = some SE → lx_M D q q5 s S.1 u w S.2.1 S.2.2 H locs → dPhi vl0 ≤ dPhi S.1 → dPhi S.1 ≤ 2800000 → cells ≤ C0 + 5 * n + dca vl0 S.1 → slots ≤ Z0 + 30 * n + dsl vl0 S.1 → lv_has ls 8 [(0, .ref b), (1, .ref (u 0)), (2, .ref (w 0)), (3, .ref (u 52001)), (4, .int (nI (6 * n)))] → W p l e room_1 s m args below meth c H locs cells slots Q (F0 m 23 ls []) := by
  have hbA : ¬ lx_A s b := Nat.not_le.mpr hbl
  have hbud : ∀ v : Nat → Nat, dPhi v ≤ 2800000 → dca vl0 v ≤ 4400 ∧ dsl vl0 v ≤ 5600000 := by
    intro v hv
    unfold dca dsl
    omega
  intro k
  induction k with
  | zero =>
    intro n S SE u H locs ls cells slots hk1 hk2 hq hM hP0 hPB hc hs hl
    have hb9 := hbud _ hPB
    refine lv_iload hx hb dz_23 (lv_at hl 4 rfl) ?_
    refine lv_aload_n hx hb dz_25 rfl (lv_at hl 0 rfl) ?_
    refine va_slen hx hb hX hbl hbA hM.2.2.2.2.2 dz_26 ?_
    refine lv_bipush (v := 6) hx hb dz_27 (by decide) ?_
    refine lv_isub hx hb dz_29 ?_
    refine lv_icmp_gt (tgt := 1716) hx hb dz_30 (by decide) (fun _ => ?_) (fun c9 => absurd ((lx_cmp hLn (by omega)).mpr (by omega)) c9)
    exact fin H locs ls cells slots hM.2.2.2.2.2 (by omega) (by omega)
  | succ k ih =>
    intro n S SE u H locs ls cells slots hk1 hk2 hq hM hP0 hPB hc hs hl
    obtain ⟨S1, hq, hm1, hm2, hr⟩ := ltrun_succ hq
    obtain ⟨vl, zc, zm⟩ := S
    dsimp only at hM hP0 hPB hc hs hm1
    have hb9 := hbud _ hPB
    have hb8 := hbud _ hm2
    have hnext : ∀ (S2 : ow_LwS) (u2 : Nat → Nat) (H : Heap) (locs : List Loc) (ls : Array Slot) (cells2 slots2 : Nat), S2 = S1 → lx_M D q q5 s S2.1 u2 w S2.2.1 S2.2.2 H locs → cells2 ≤ C0 + 5 * (n + 1) + dca vl0 S2.1 → slots2 ≤ Z0 + 30 * (n + 1) + dsl vl0 S2.1 → lv_has ls 8 [(0, .ref b), (1, .ref (u2 0)), (2, .ref (w 0)), (3, .ref (u2 52001)), (4, .int (nI (6 * n)))] → W p l e room_1 s m args below meth c H locs cells2 slots2 Q (F0 m 1710 ls []) := by
      intro S2 u2 H locs ls cells2 slots2 hS2 hM hc hs hl
      subst hS2
      refine lv_iinc (v := nI (6 * (n + 1))) (lv' := (4, .int (nI (6 * (n + 1)))) :: [(0, .ref b), (1, .ref (u2 0)), (2, .ref (w 0)), (3, .ref (u2 52001))]) hx hb dz_1710 hl (k := 4) rfl (by show nI (6 * n) + 6 = _; rw [show nI (6 * n) + 6 = nI (6 * n + 6) from nI_add (6 * n) 6]; congr 1) (by decide) rfl (fun ls hl => ?_)
      refine lv_goto (tgt := 23) hx hb dz_1713 (by decide) ?_
      exact ih (n + 1) S2 SE u2 H locs ls cells2 slots2 (by omega) (by omega) hr hM (Nat.le_trans hP0 hm1) hm2 hc hs (lv_sub hl [1, 2, 3, 4, 0] rfl)
    have hda := dca_add hP0 hm1
    have hds := dsl_add hP0 hm1
    refine lv_iload hx hb dz_23 (lv_at hl 4 rfl) ?_
    refine lv_aload_n hx hb dz_25 rfl (lv_at hl 0 rfl) ?_
    refine va_slen hx hb hX hbl hbA hM.2.2.2.2.2 dz_26 ?_
    refine lv_bipush (v := 6) hx hb dz_27 (by decide) ?_
    refine lv_isub hx hb dz_29 ?_
    refine lv_icmp_gt (tgt := 1716) hx hb dz_30 (by decide) (fun c9 => absurd ((lx_cmp hLn (by omega)).mp c9) (by omega)) (fun _ => ?_)
    refine lv_aload_n hx hb dz_33 rfl (lv_at hl 0 rfl) ?_
    refine lv_iload hx hb dz_34 (lv_at hl 4 rfl) ?_
    refine va_sld hx hb hX hbl hbA hM.2.2.2.2.2 (vp_in_nI (n := 6 * n) (N := L) (by omega) (by omega)) dz_36 ?_
    refine ow_topi (y := xs (6 * n)) (congrArg xs (nI_clamp (by omega))) ?_
    refine lv_bipush (v := 63) hx hb dz_37 (by decide) ?_
    refine lv_iand hx hb dz_39 ?_
    unfold ltstep at hq
    by_cases hc0 : (xs (6 * n) &&& 63).toInt < 0 ∨ 38 < (xs (6 * n) &&& 63).toInt
    · have hq := tw_it hq hc0
      refine lv_tableOut (tgt := 1710) hx hb dz_40 hc0 (by decide) ?_
      exact hnext (vl, zc, zm) u H locs ls cells slots (Option.some.inj hq) hM (by dsimp only; omega) (by dsimp only; omega) hl
    · have hq := tw_if hq hc0
      by_cases hc9 : xs (6 * n) &&& 63 = 0
      · have hq := tw_it hq hc9
        refine ow_topi (y := 0) hc9 ?_
        refine lv_tableIn (x := 0) (tgt := 212) hx hb dz_40 (by decide) (by decide) rfl (by decide) ?_
        refine lxc_feed hx hb hml hown hts hX hbl hZ hL1 hC1 hM1 hG hLn (by omega) hq hM hl (by omega) (by omega) (fun zc1 zm1 H1 locs1 ls1 hM2 hl2 e9 => ?_)
        exact hnext (vl, zc1, zm1) u H1 locs1 ls1 _ _ (Option.some.inj e9) hM2 (by dsimp only; omega) (by dsimp only; omega) hl2
      · have hq := tw_if hq hc9
        by_cases hc9 : xs (6 * n) &&& 63 = 1
        · have hq := tw_it hq hc9
          refine ow_topi (y := 1) hc9 ?_
          refine lv_tableIn (x := 1) (tgt := 288) hx hb dz_40 (by decide) (by decide) rfl (by decide) ?_
          refine lxc_end hx hb hml hown hts hX hbl hZ hL1 hC1 hM1 hG hLn (by omega) hq hM hl (by omega) (by omega) (fun zc1 zm1 H1 locs1 ls1 hM2 hl2 e9 => ?_)
          exact hnext (vl, zc1, zm1) u H1 locs1 ls1 _ _ (Option.some.inj e9) hM2 (by dsimp only; omega) (by dsimp only; omega) hl2
        · have hq := tw_if hq hc9
          by_cases hc9 : xs (6 * n) &&& 63 = 2
          · have hq := tw_it hq hc9
            refine ow_topi (y := 2) hc9 ?_
            refine lv_tableIn (x := 2) (tgt := 313) hx hb dz_40 (by decide) (by decide) rfl (by decide) ?_
            refine lxc_diagram hx hb hml hown hts hX hbl hZ hL1 hC1 hM1 hG hLn (by omega) hq hM hl (by omega) (by omega) (fun zc1 zm1 H1 locs1 ls1 hM2 hl2 e9 => ?_)
            exact hnext (vl, zc1, zm1) u H1 locs1 ls1 _ _ (Option.some.inj e9) hM2 (by dsimp only; omega) (by dsimp only; omega) hl2
          · have hq := tw_if hq hc9
            by_cases hc9 : xs (6 * n) &&& 63 = 3
            · have hq := tw_it hq hc9
              refine ow_topi (y := 3) hc9 ?_
              refine lv_tableIn (x := 3) (tgt := 329) hx hb dz_40 (by decide) (by decide) rfl (by decide) ?_
              refine lxc_braid hx hb hml hown hts hX hbl hZ hL1 hC1 hM1 hG hLn (by omega) hq hM hl (by omega) (by omega) (fun zc1 zm1 H1 locs1 ls1 hM2 hl2 e9 => ?_)
              exact hnext (vl, zc1, zm1) u H1 locs1 ls1 _ _ (Option.some.inj e9) hM2 (by dsimp only; omega) (by dsimp only; omega) hl2
            · have hq := tw_if hq hc9
              by_cases hc9 : xs (6 * n) &&& 63 = 4
              · have hq := tw_it hq hc9
                refine ow_topi (y := 4) hc9 ?_
                refine lv_tableIn (x := 4) (tgt := 357) hx hb dz_40 (by decide) (by decide) rfl (by decide) ?_
                refine lxc_drop hx hb hml hown hts hX hbl hZ hL1 hC1 hM1 hG hLn (by omega) hq hM hl (by omega) (by omega) (fun zc1 zm1 H1 locs1 ls1 hM2 hl2 e9 => ?_)
                exact hnext (vl, zc1, zm1) u H1 locs1 ls1 _ _ (Option.some.inj e9) hM2 (by dsimp only; omega) (by dsimp only; omega) hl2
              · have hq := tw_if hq hc9
                by_cases hc9 : xs (6 * n) &&& 63 = 5
                · have hq := tw_it hq hc9
                  refine ow_topi (y := 5) hc9 ?_
                  refine lv_tableIn (x := 5) (tgt := 382) hx hb dz_40 (by decide) (by decide) rfl (by decide) ?_
                  refine lxc_dropBraid hx hb hml hown hts hX hbl hZ hL1 hC1 hM1 hG hLn (by omega) hq hM hl (by omega) (by omega) (fun zc1 zm1 H1 locs1 ls1 hM2 hl2 e9 => ?_)
                  exact hnext (vl, zc1, zm1) u H1 locs1 ls1 _ _ (Option.some.inj e9) hM2 (by dsimp only; omega) (by dsimp only; omega) hl2
                · have hq := tw_if hq hc9
                  by_cases hc9 : xs (6 * n) &&& 63 = 6
                  · have hq := tw_it hq hc9
                    refine ow_topi (y := 6) hc9 ?_
                    refine lv_tableIn (x := 6) (tgt := 407) hx hb dz_40 (by decide) (by decide) rfl (by decide) ?_
                    refine lxc_figure hx hb hml hown hts hX hbl hZ hL1 hC1 hM1 hG hLn (by omega) hq hM hl (by omega) (by omega) (fun zc1 zm1 H1 locs1 ls1 hM2 hl2 e9 => ?_)
                    exact hnext (vl, zc1, zm1) u H1 locs1 ls1 _ _ (Option.some.inj e9) hM2 (by dsimp only; omega) (by dsimp only; omega) hl2
                  · have hq := tw_if hq hc9
                    by_cases hc9 : xs (6 * n) &&& 63 = 7
                    · have hq := tw_it hq hc9
                      refine ow_topi (y := 7) hc9 ?_
                      refine lv_tableIn (x := 7) (tgt := 475) hx hb dz_40 (by decide) (by decide) rfl (by decide) ?_
                      refine lxc_visit hx hb hml hown hts hX hbl hZ hL1 hC1 hM1 hG hLn (by omega) hq hM hl (by omega) (by omega) (fun zc1 zm1 H1 locs1 ls1 hM2 hl2 e9 => ?_)
                      exact hnext (vl, zc1, zm1) u H1 locs1 ls1 _ _ (Option.some.inj e9) hM2 (by dsimp only; omega) (by dsimp only; omega) hl2
                    · have hq := tw_if hq hc9
                      by_cases hc9 : xs (6 * n) &&& 63 = 8
                      · have hq := tw_it hq hc9
                        refine ow_topi (y := 8) hc9 ?_
                        refine lv_tableIn (x := 8) (tgt := 527) hx hb dz_40 (by decide) (by decide) rfl (by decide) ?_
                        refine lxc_linking hx hb hml hown hts hX hbl hZ hL1 hC1 hM1 hG hLn (by omega) hq hM hl (by omega) (by omega) (fun zc1 zm1 H1 locs1 ls1 hM2 hl2 e9 => ?_)
                        exact hnext (vl, zc1, zm1) u H1 locs1 ls1 _ _ (Option.some.inj e9) hM2 (by dsimp only; omega) (by dsimp only; omega) hl2
                      · have hq := tw_if hq hc9
                        by_cases hc9 : xs (6 * n) &&& 63 = 9
                        · have hq := tw_it hq hc9
                          refine ow_topi (y := 9) hc9 ?_
                          refine lv_tableIn (x := 9) (tgt := 579) hx hb dz_40 (by decide) (by decide) rfl (by decide) ?_
                          refine lxc_alike hx hb hml hown hts hX hbl hZ hL1 hC1 hM1 hG hLn (by omega) hq hM hl (by omega) (by omega) (fun zc1 zm1 H1 locs1 ls1 hM2 hl2 e9 => ?_)
                          exact hnext (vl, zc1, zm1) u H1 locs1 ls1 _ _ (Option.some.inj e9) hM2 (by dsimp only; omega) (by dsimp only; omega) hl2
                        · have hq := tw_if hq hc9
                          by_cases hc9 : xs (6 * n) &&& 63 = 10
                          · have hq := tw_it hq hc9
                            refine ow_topi (y := 10) hc9 ?_
                            refine lv_tableIn (x := 10) (tgt := 616) hx hb dz_40 (by decide) (by decide) rfl (by decide) ?_
                            refine lxc_mirror hx hb hml hown hts hX hbl hZ hL1 hC1 hM1 hG hLn (by omega) hq hM hl (by omega) (by omega) (fun zc1 zm1 H1 locs1 ls1 hM2 hl2 e9 => ?_)
                            exact hnext (vl, zc1, zm1) u H1 locs1 ls1 _ _ (Option.some.inj e9) hM2 (by dsimp only; omega) (by dsimp only; omega) hl2
                          · have hq := tw_if hq hc9
                            by_cases hc9 : xs (6 * n) &&& 63 = 11
                            · have hq := tw_it hq hc9
                              refine ow_topi (y := 11) hc9 ?_
                              refine lv_tableIn (x := 11) (tgt := 644) hx hb dz_40 (by decide) (by decide) rfl (by decide) ?_
                              refine lxc_reverse hx hb hml hown hts hX hbl hZ hL1 hC1 hM1 hG hLn (by omega) hq hM hl (by omega) (by omega) (fun zc1 zm1 H1 locs1 ls1 hM2 hl2 e9 => ?_)
                              exact hnext (vl, zc1, zm1) u H1 locs1 ls1 _ _ (Option.some.inj e9) hM2 (by dsimp only; omega) (by dsimp only; omega) hl2
                            · have hq := tw_if hq hc9
                              by_cases hc9 : xs (6 * n) &&& 63 = 12
                              · have hq := tw_it hq hc9
                                refine ow_topi (y := 12) hc9 ?_
                                refine lv_tableIn (x := 12) (tgt := 684) hx hb dz_40 (by decide) (by decide) rfl (by decide) ?_
                                refine lxc_change hx hb hml hown hts hX hbl hZ hL1 hC1 hM1 hG hLn (by omega) hq hM hl (by omega) (by omega) (fun zc1 zm1 H1 locs1 ls1 hM2 hl2 e9 => ?_)
                                exact hnext (vl, zc1, zm1) u H1 locs1 ls1 _ _ (Option.some.inj e9) hM2 (by dsimp only; omega) (by dsimp only; omega) hl2
                              · have hq := tw_if hq hc9
                                by_cases hc9 : xs (6 * n) &&& 63 = 13
                                · have hq := tw_it hq hc9
                                  refine ow_topi (y := 13) hc9 ?_
                                  refine lv_tableIn (x := 13) (tgt := 724) hx hb dz_40 (by decide) (by decide) rfl (by decide) ?_
                                  refine lxc_smooth hx hb hml hown hts hX hbl hZ hL1 hC1 hM1 hG hLn (by omega) hq hM hl (by omega) (by omega) (fun zc1 zm1 H1 locs1 ls1 hM2 hl2 e9 => ?_)
                                  exact hnext (vl, zc1, zm1) u H1 locs1 ls1 _ _ (Option.some.inj e9) hM2 (by dsimp only; omega) (by dsimp only; omega) hl2
                                · have hq := tw_if hq hc9
                                  by_cases hc9 : xs (6 * n) &&& 63 = 14
                                  · have hq := tw_it hq hc9
                                    refine ow_topi (y := 14) hc9 ?_
                                    refine lv_tableIn (x := 14) (tgt := 764) hx hb dz_40 (by decide) (by decide) rfl (by decide) ?_
                                    refine lxc_apart hx hb hml hown hts hX hbl hZ hL1 hC1 hM1 hG hLn (by omega) hq hM hl (by omega) (by omega) (fun zc1 zm1 H1 locs1 ls1 hM2 hl2 e9 => ?_)
                                    exact hnext (vl, zc1, zm1) u H1 locs1 ls1 _ _ (Option.some.inj e9) hM2 (by dsimp only; omega) (by dsimp only; omega) hl2
                                  · have hq := tw_if hq hc9
                                    by_cases hc9 : xs (6 * n) &&& 63 = 15
                                    · have hq := tw_it hq hc9
                                      refine ow_topi (y := 15) hc9 ?_
                                      refine lv_tableIn (x := 15) (tgt := 804) hx hb dz_40 (by decide) (by decide) rfl (by decide) ?_
                                      refine lxc_join hx hb hml hown hts hX hbl hZ hL1 hC1 hM1 hG hLn (by omega) hq hM hl (by omega) (by omega) (fun zc1 zm1 H1 locs1 ls1 hM2 hl2 e9 => ?_)
                                      exact hnext (vl, zc1, zm1) u H1 locs1 ls1 _ _ (Option.some.inj e9) hM2 (by dsimp only; omega) (by dsimp only; omega) hl2
                                    · have hq := tw_if hq hc9
                                      by_cases hc9 : xs (6 * n) &&& 63 = 16
                                      · have hq := tw_it hq hc9
                                        refine ow_topi (y := 16) hc9 ?_
                                        refine lv_tableIn (x := 16) (tgt := 868) hx hb dz_40 (by decide) (by decide) rfl (by decide) ?_
                                        refine lxc_moves hx hb hml hown hts hX hbl hZ hL1 hC1 hM1 hG hLn (by omega) hq hM hl (by omega) (by omega) (fun zc1 zm1 H1 locs1 ls1 hM2 hl2 e9 => ?_)
                                        exact hnext (vl, zc1, zm1) u H1 locs1 ls1 _ _ (Option.some.inj e9) hM2 (by dsimp only; omega) (by dsimp only; omega) hl2
                                      · have hq := tw_if hq hc9
                                        by_cases hc9 : xs (6 * n) &&& 63 = 17
                                        · have hq := tw_it hq hc9
                                          refine ow_topi (y := 17) hc9 ?_
                                          refine lv_tableIn (x := 17) (tgt := 908) hx hb dz_40 (by decide) (by decide) rfl (by decide) ?_
                                          refine lxc_moved hx hb hml hown hts hX hbl hZ hL1 hC1 hM1 hG hLn (by omega) hq hM hl (by omega) (by omega) (fun zc1 zm1 H1 locs1 ls1 hM2 hl2 e9 => ?_)
                                          exact hnext (vl, zc1, zm1) u H1 locs1 ls1 _ _ (Option.some.inj e9) hM2 (by dsimp only; omega) (by dsimp only; omega) hl2
                                        · have hq := tw_if hq hc9
                                          by_cases hc9 : xs (6 * n) &&& 63 = 18
                                          · have hq := tw_it hq hc9
                                            refine ow_topi (y := 18) hc9 ?_
                                            refine lv_tableIn (x := 18) (tgt := 936) hx hb dz_40 (by decide) (by decide) rfl (by decide) ?_
                                            refine lxc_simplify hx hb hml hown hts hX hbl hZ hL1 hC1 hM1 hG hLn (by omega) hq hM hl (by omega) (by omega) (fun zc1 zm1 H1 locs1 ls1 hM2 hl2 e9 => ?_)
                                            exact hnext (vl, zc1, zm1) u H1 locs1 ls1 _ _ (Option.some.inj e9) hM2 (by dsimp only; omega) (by dsimp only; omega) hl2
                                          · have hq := tw_if hq hc9
                                            by_cases hc9 : xs (6 * n) &&& 63 = 19
                                            · have hq := tw_it hq hc9
                                              refine ow_topi (y := 19) hc9 ?_
                                              refine lv_tableIn (x := 19) (tgt := 964) hx hb dz_40 (by decide) (by decide) rfl (by decide) ?_
                                              refine lxc_way hx hb hml hown hts hX hbl hZ hL1 hC1 hM1 hG hLn (by omega) hq hM hl (by omega) (by omega) (fun zc1 zm1 H1 locs1 ls1 hM2 hl2 e9 => ?_)
                                              exact hnext (vl, zc1, zm1) u H1 locs1 ls1 _ _ (Option.some.inj e9) hM2 (by dsimp only; omega) (by dsimp only; omega) hl2
                                            · have hq := tw_if hq hc9
                                              by_cases hc9 : xs (6 * n) &&& 63 = 20
                                              · have hq := tw_it hq hc9
                                                refine ow_topi (y := 20) hc9 ?_
                                                refine lv_tableIn (x := 20) (tgt := 1004) hx hb dz_40 (by decide) (by decide) rfl (by decide) ?_
                                                refine lxc_summands hx hb hml hown hts hX hbl hZ hL1 hC1 hM1 hG hLn (by omega) hq hM hl (by omega) (by omega) (fun zc1 zm1 H1 locs1 ls1 hM2 hl2 e9 => ?_)
                                                exact hnext (vl, zc1, zm1) u H1 locs1 ls1 _ _ (Option.some.inj e9) hM2 (by dsimp only; omega) (by dsimp only; omega) hl2
                                              · have hq := tw_if hq hc9
                                                by_cases hc9 : xs (6 * n) &&& 63 = 21
                                                · have hq := tw_it hq hc9
                                                  refine ow_topi (y := 21) hc9 ?_
                                                  refine lv_tableIn (x := 21) (tgt := 1032) hx hb dz_40 (by decide) (by decide) rfl (by decide) ?_
                                                  refine lxc_summand hx hb hml hown hts hX hbl hZ hL1 hC1 hM1 hG hLn (by omega) hq hM hl (by omega) (by omega) (fun zc1 zm1 H1 locs1 ls1 hM2 hl2 e9 => ?_)
                                                  exact hnext (vl, zc1, zm1) u H1 locs1 ls1 _ _ (Option.some.inj e9) hM2 (by dsimp only; omega) (by dsimp only; omega) hl2
                                                · have hq := tw_if hq hc9
                                                  by_cases hc9 : xs (6 * n) &&& 63 = 22
                                                  · have hq := tw_it hq hc9
                                                    refine ow_topi (y := 22) hc9 ?_
                                                    refine lv_tableIn (x := 22) (tgt := 1060) hx hb dz_40 (by decide) (by decide) rfl (by decide) ?_
                                                    refine lxc_conway hx hb hml hown hts hX hbl hZ hL1 hC1 hM1 hG hLn (by omega) hq hM hl (by omega) (by omega) (fun zc1 zm1 H1 locs1 ls1 hM2 hl2 e9 => ?_)
                                                    exact hnext (vl, zc1, zm1) u H1 locs1 ls1 _ _ (Option.some.inj e9) hM2 (by dsimp only; omega) (by dsimp only; omega) hl2
                                                  · have hq := tw_if hq hc9
                                                    by_cases hc9 : xs (6 * n) &&& 63 = 23
                                                    · have hq := tw_it hq hc9
                                                      refine ow_topi (y := 23) hc9 ?_
                                                      refine lv_tableIn (x := 23) (tgt := 1100) hx hb dz_40 (by decide) (by decide) rfl (by decide) ?_
                                                      refine lxc_jones hx hb hml hown hts hX hbl hZ hL1 hC1 hM1 hG hLn (by omega) hq hM hl (by omega) (by omega) (fun zc1 zm1 H1 locs1 ls1 hM2 hl2 e9 => ?_)
                                                      exact hnext (vl, zc1, zm1) u H1 locs1 ls1 _ _ (Option.some.inj e9) hM2 (by dsimp only; omega) (by dsimp only; omega) hl2
                                                    · have hq := tw_if hq hc9
                                                      by_cases hc9 : xs (6 * n) &&& 63 = 24
                                                      · have hq := tw_it hq hc9
                                                        refine ow_topi (y := 24) hc9 ?_
                                                        refine lv_tableIn (x := 24) (tgt := 1140) hx hb dz_40 (by decide) (by decide) rfl (by decide) ?_
                                                        refine lxc_signature hx hb hml hown hts hX hbl hZ hL1 hC1 hM1 hG hLn (by omega) hq hM hl (by omega) (by omega) (fun zc1 zm1 H1 locs1 ls1 hM2 hl2 e9 => ?_)
                                                        exact hnext (vl, zc1, zm1) u H1 locs1 ls1 _ _ (Option.some.inj e9) hM2 (by dsimp only; omega) (by dsimp only; omega) hl2
                                                      · have hq := tw_if hq hc9
                                                        by_cases hc9 : xs (6 * n) &&& 63 = 25
                                                        · have hq := tw_it hq hc9
                                                          refine ow_topi (y := 25) hc9 ?_
                                                          refine lv_tableIn (x := 25) (tgt := 1168) hx hb dz_40 (by decide) (by decide) rfl (by decide) ?_
                                                          refine lxc_cover hx hb hml hown hts hX hbl hZ hL1 hC1 hM1 hG hLn (by omega) hq hM hl (by omega) (by omega) (fun zc1 zm1 H1 locs1 ls1 hM2 hl2 e9 => ?_)
                                                          exact hnext (vl, zc1, zm1) u H1 locs1 ls1 _ _ (Option.some.inj e9) hM2 (by dsimp only; omega) (by dsimp only; omega) hl2
                                                        · have hq := tw_if hq hc9
                                                          by_cases hc9 : xs (6 * n) &&& 63 = 26
                                                          · have hq := tw_it hq hc9
                                                            refine ow_topi (y := 26) hc9 ?_
                                                            refine lv_tableIn (x := 26) (tgt := 1208) hx hb dz_40 (by decide) (by decide) rfl (by decide) ?_
                                                            refine lxc_colours hx hb hml hown hts hX hbl hZ hL1 hC1 hM1 hG hLn (by omega) hq hM hl (by omega) (by omega) (fun zc1 zm1 H1 locs1 ls1 hM2 hl2 e9 => ?_)
                                                            exact hnext (vl, zc1, zm1) u H1 locs1 ls1 _ _ (Option.some.inj e9) hM2 (by dsimp only; omega) (by dsimp only; omega) hl2
                                                          · have hq := tw_if hq hc9
                                                            by_cases hc9 : xs (6 * n) &&& 63 = 27
                                                            · have hq := tw_it hq hc9
                                                              refine ow_topi (y := 27) hc9 ?_
                                                              refine lv_tableIn (x := 27) (tgt := 1248) hx hb dz_40 (by decide) (by decide) rfl (by decide) ?_
                                                              refine lxc_maps hx hb hml hown hts hX hbl hZ hL1 hC1 hM1 hG hLn (by omega) hq hM hl (by omega) (by omega) (fun zc1 zm1 H1 locs1 ls1 hM2 hl2 e9 => ?_)
                                                              exact hnext (vl, zc1, zm1) u H1 locs1 ls1 _ _ (Option.some.inj e9) hM2 (by dsimp only; omega) (by dsimp only; omega) hl2
                                                            · have hq := tw_if hq hc9
                                                              by_cases hc9 : xs (6 * n) &&& 63 = 28
                                                              · have hq := tw_it hq hc9
                                                                refine ow_topi (y := 28) hc9 ?_
                                                                refine lv_tableIn (x := 28) (tgt := 1288) hx hb dz_40 (by decide) (by decide) rfl (by decide) ?_
                                                                refine lxc_chain hx hb hml hown hts hX hbl hZ hL1 hC1 hM1 hG hLn (by omega) hq hM hl (fun r v z1 hv => ?_) (fun vl1 u1 zc1 zm1 H1 locs1 ls1 hM2 hl2 e9 => ?_)
                                                                · have e8 := ltp_chain_vl hq hv
                                                                  rw [← e8]
                                                                  dsimp only
                                                                  omega
                                                                · have e8 := Option.some.inj e9
                                                                  have e7 : S1.1 = vl1 := by rw [← e8]
                                                                  rw [e7] at hda hds
                                                                  exact hnext (vl1, zc1, zm1) u1 H1 locs1 ls1 _ _ e8 hM2 (by dsimp only; omega) (by dsimp only; omega) hl2
                                                              · have hq := tw_if hq hc9
                                                                by_cases hc9 : xs (6 * n) &&& 63 = 29
                                                                · have hq := tw_it hq hc9
                                                                  refine ow_topi (y := 29) hc9 ?_
                                                                  refine lv_tableIn (x := 29) (tgt := 1328) hx hb dz_40 (by decide) (by decide) rfl (by decide) ?_
                                                                  refine lxc_rank hx hb hml hown hts hX hbl hZ hL1 hC1 hM1 hG hLn (by omega) hq hM hl (by omega) (by omega) (fun zc1 zm1 H1 locs1 ls1 hM2 hl2 e9 => ?_)
                                                                  exact hnext (vl, zc1, zm1) u H1 locs1 ls1 _ _ (Option.some.inj e9) hM2 (by dsimp only; omega) (by dsimp only; omega) hl2
                                                                · have hq := tw_if hq hc9
                                                                  by_cases hc9 : xs (6 * n) &&& 63 = 30
                                                                  · have hq := tw_it hq hc9
                                                                    refine ow_topi (y := 30) hc9 ?_
                                                                    refine lv_tableIn (x := 30) (tgt := 1365) hx hb dz_40 (by decide) (by decide) rfl (by decide) ?_
                                                                    refine lxc_closure hx hb hml hown hts hX hbl hZ hL1 hC1 hM1 hG hLn (by omega) hq hM hl (by omega) (by omega) (fun zc1 zm1 H1 locs1 ls1 hM2 hl2 e9 => ?_)
                                                                    exact hnext (vl, zc1, zm1) u H1 locs1 ls1 _ _ (Option.some.inj e9) hM2 (by dsimp only; omega) (by dsimp only; omega) hl2
                                                                  · have hq := tw_if hq hc9
                                                                    by_cases hc9 : xs (6 * n) &&& 63 = 31
                                                                    · have hq := tw_it hq hc9
                                                                      refine ow_topi (y := 31) hc9 ?_
                                                                      refine lv_tableIn (x := 31) (tgt := 1393) hx hb dz_40 (by decide) (by decide) rfl (by decide) ?_
                                                                      refine lxc_product hx hb hml hown hts hX hbl hZ hL1 hC1 hM1 hG hLn (by omega) hq hM hl (by omega) (by omega) (fun zc1 zm1 H1 locs1 ls1 hM2 hl2 e9 => ?_)
                                                                      exact hnext (vl, zc1, zm1) u H1 locs1 ls1 _ _ (Option.some.inj e9) hM2 (by dsimp only; omega) (by dsimp only; omega) hl2
                                                                    · have hq := tw_if hq hc9
                                                                      by_cases hc9 : xs (6 * n) &&& 63 = 32
                                                                      · have hq := tw_it hq hc9
                                                                        refine ow_topi (y := 32) hc9 ?_
                                                                        refine lv_tableIn (x := 32) (tgt := 1433) hx hb dz_40 (by decide) (by decide) rfl (by decide) ?_
                                                                        refine lxc_inverse hx hb hml hown hts hX hbl hZ hL1 hC1 hM1 hG hLn (by omega) hq hM hl (by omega) (by omega) (fun zc1 zm1 H1 locs1 ls1 hM2 hl2 e9 => ?_)
                                                                        exact hnext (vl, zc1, zm1) u H1 locs1 ls1 _ _ (Option.some.inj e9) hM2 (by dsimp only; omega) (by dsimp only; omega) hl2
                                                                      · have hq := tw_if hq hc9
                                                                        by_cases hc9 : xs (6 * n) &&& 63 = 33
                                                                        · have hq := tw_it hq hc9
                                                                          refine ow_topi (y := 33) hc9 ?_
                                                                          refine lv_tableIn (x := 33) (tgt := 1461) hx hb dz_40 (by decide) (by decide) rfl (by decide) ?_
                                                                          refine lxc_normal hx hb hml hown hts hX hbl hZ hL1 hC1 hM1 hG hLn (by omega) hq hM hl (by omega) (by omega) (fun zc1 zm1 H1 locs1 ls1 hM2 hl2 e9 => ?_)
                                                                          exact hnext (vl, zc1, zm1) u H1 locs1 ls1 _ _ (Option.some.inj e9) hM2 (by dsimp only; omega) (by dsimp only; omega) hl2
                                                                        · have hq := tw_if hq hc9
                                                                          by_cases hc9 : xs (6 * n) &&& 63 = 34
                                                                          · have hq := tw_it hq hc9
                                                                            refine ow_topi (y := 34) hc9 ?_
                                                                            refine lv_tableIn (x := 34) (tgt := 1501) hx hb dz_40 (by decide) (by decide) rfl (by decide) ?_
                                                                            refine lxc_factor hx hb hml hown hts hX hbl hZ hL1 hC1 hM1 hG hLn (by omega) hq hM hl (by omega) (by omega) (fun zc1 zm1 H1 locs1 ls1 hM2 hl2 e9 => ?_)
                                                                            exact hnext (vl, zc1, zm1) u H1 locs1 ls1 _ _ (Option.some.inj e9) hM2 (by dsimp only; omega) (by dsimp only; omega) hl2
                                                                          · have hq := tw_if hq hc9
                                                                            by_cases hc9 : xs (6 * n) &&& 63 = 35
                                                                            · have hq := tw_it hq hc9
                                                                              refine ow_topi (y := 35) hc9 ?_
                                                                              refine lv_tableIn (x := 35) (tgt := 1553) hx hb dz_40 (by decide) (by decide) rfl (by decide) ?_
                                                                              refine lxc_equal hx hb hml hown hts hX hbl hZ hL1 hC1 hM1 hG hLn (by omega) hq hM hl (by omega) (by omega) (fun zc1 zm1 H1 locs1 ls1 hM2 hl2 e9 => ?_)
                                                                              exact hnext (vl, zc1, zm1) u H1 locs1 ls1 _ _ (Option.some.inj e9) hM2 (by dsimp only; omega) (by dsimp only; omega) hl2
                                                                            · have hq := tw_if hq hc9
                                                                              by_cases hc9 : xs (6 * n) &&& 63 = 36
                                                                              · have hq := tw_it hq hc9
                                                                                refine ow_topi (y := 36) hc9 ?_
                                                                                refine lv_tableIn (x := 36) (tgt := 1590) hx hb dz_40 (by decide) (by decide) rfl (by decide) ?_
                                                                                refine lxc_summit hx hb hml hown hts hX hbl hZ hL1 hC1 hM1 hG hLn (by omega) hq hM hl (by omega) (by omega) (fun zc1 zm1 H1 locs1 ls1 hM2 hl2 e9 => ?_)
                                                                                exact hnext (vl, zc1, zm1) u H1 locs1 ls1 _ _ (Option.some.inj e9) hM2 (by dsimp only; omega) (by dsimp only; omega) hl2
                                                                              · have hq := tw_if hq hc9
                                                                                by_cases hc9 : xs (6 * n) &&& 63 = 37
                                                                                · have hq := tw_it hq hc9
                                                                                  refine ow_topi (y := 37) hc9 ?_
                                                                                  refine lv_tableIn (x := 37) (tgt := 1618) hx hb dz_40 (by decide) (by decide) rfl (by decide) ?_
                                                                                  refine lxc_conjugate hx hb hml hown hts hX hbl hZ hL1 hC1 hM1 hG hLn (by omega) hq hM hl (by omega) (by omega) (fun zc1 zm1 H1 locs1 ls1 hM2 hl2 e9 => ?_)
                                                                                  exact hnext (vl, zc1, zm1) u H1 locs1 ls1 _ _ (Option.some.inj e9) hM2 (by dsimp only; omega) (by dsimp only; omega) hl2
                                                                                · have hq := tw_if hq hc9
                                                                                  by_cases hc9 : xs (6 * n) &&& 63 = 38
                                                                                  · have hq := tw_it hq hc9
                                                                                    refine ow_topi (y := 38) hc9 ?_
                                                                                    refine lv_tableIn (x := 38) (tgt := 1658) hx hb dz_40 (by decide) (by decide) rfl (by decide) ?_
                                                                                    refine lxc_two hx hb hml hown hts hX hbl hZ hL1 hC1 hM1 hG hLn (by omega) hq hM hl (by omega) (by omega) (fun zc1 zm1 H1 locs1 ls1 hM2 hl2 e9 => ?_)
                                                                                    exact hnext (vl, zc1, zm1) u H1 locs1 ls1 _ _ (Option.some.inj e9) hM2 (by dsimp only; omega) (by dsimp only; omega) hl2
                                                                                  · have hq := tw_if hq hc9
                                                                                    exact cw_no hq
