theorem yo_ary {args : Array Value} {s : State} {ty : FieldType} (h : (Cond.arrayClass ty).before args s = true) (hra : ∀ x : ClassId, s.vm.findClass ("[" ++ ty.toString) = some x → va_RA s x ty) : ∃ cA : ClassId, ArrOfT s cA ty ∧ va_RA s cA ty := by
  obtain ⟨cA, kA, comp, h1, h2, h3⟩ := Cond.arrayClass_spec h
  exact ⟨cA, fun n z => ⟨fun k h => (by cases h), kA, h2, comp, h3⟩, hra cA h1⟩
theorem yo_str {args : Array Value} {s : State} {own tx : String} {k : Nat} (h1 : (Cond.stringRef own k tx).before args s = true) (h2 : (Cond.exactly (.string own k) "java/lang/String").before args s = true) : ∃ a : Nat, vk_R own k tx a s := by
  obtain ⟨a, c, cell, kk, e1, -⟩ := Cond.exactly_spec h2
  exact ⟨a, vk_R.of h1 e1⟩
theorem yo_grid {ty : FieldType} {s : State} (h : ow_AO ty s) : ∃ cA : ClassId, ArrOfT s cA (.array ty) ∧ va_RA s cA (.array ty) := by
  obtain ⟨comp, cA, k, h1, h2, h3, h4⟩ := h
  exact ⟨cA, fun n z => ⟨fun k h => (by cases h), k, h2, comp, h3⟩, h4⟩
theorem yo_objs {C : String} {B : Array Value} {U : State} (h : (Cond.arrayOver (.object C)).before B U = true) (hC : (FieldType.object C).toString = "L" ++ C ++ ";") : ∃ cA : ClassId, ArrOfT U cA (.object C) ∧ va_RA U cA (.object C) := by
  unfold Cond.before at h
  simp only [Cond.holds, Cond.value, beq_iff_eq] at h
  cases hc : U.vm.findClass C with
  | none => simp [hc] at h
  | some comp =>
    simp only [hc, Option.bind_some, Option.bind_eq_some_iff, Option.map_eq_some_iff] at h
    obtain ⟨cA, hi, k, hk, hq⟩ := h
    obtain ⟨hlt, hp, -⟩ := Array.findIdx?_eq_some_iff_getElem.mp hi
    have hkk : U.vm.classes[cA] = k := (Array.getElem?_eq_some_iff.mp hk).2
    rw [hkk] at hp
    cases hkind : k.kind with
    | array component t =>
      rw [hkind] at hq hp
      simp at hq hp
      have e9 : k.kind = .array comp (.object C) := by rw [hkind, hp, hq.1]
      exact ⟨cA, fun n z => ⟨fun k h => (by cases h), k, hk, comp, e9⟩, k, comp, hk, e9, hc, hq.2⟩
    | _ => rw [hkind] at hq; simp at hq
theorem dv_iff {A : Nat → Prop} {ws : va_W} (h : va_D A ws) : (ws.map Prod.fst).Nodup := by
  unfold List.Nodup
  rw [List.pairwise_iff_getElem]
  intro i j hi hj hij e
  rw [List.length_map] at hi hj
  rw [List.getElem_map, List.getElem_map] at e
  have := h.1 i j ws[i] ws[j] (List.getElem?_eq_getElem hi) (List.getElem?_eq_getElem hj) e
  omega
theorem dv_of {A : Nat → Prop} {ws : va_W} (h : (ws.map Prod.fst).Nodup) (hA : ∀ x, x ∈ ws → A x.1) : va_D A ws := by
  refine ⟨fun i j x y hi hj e => ?_, fun k x hk => hA x (List.mem_of_getElem? hk)⟩
  have h1 : (ws.map Prod.fst)[i]? = some x.1 := by rw [List.getElem?_map, hi]; rfl
  have h2 : (ws.map Prod.fst)[j]? = some x.1 := by rw [List.getElem?_map, hj, e]; rfl
  exact tw_ndj h h1 h2
theorem dv_mem {A : Nat → Prop} {ws : va_W} (h : va_D A ws) {x : Nat × va_E} (hx : x ∈ ws) : A x.1 := by
  obtain ⟨k, hk⟩ := List.getElem?_of_mem hx
  exact h.2 k x hk
theorem dv_split {A : Nat → Prop} {P Q R : va_W} (h : va_D A ((P ++ Q) ++ R)) : va_D A (P ++ R) ∧ ∀ x, x ∈ P ++ R → ∀ y, y ∈ Q → x.1 ≠ y.1 := by
  have h1 := dv_iff h
  rw [List.map_append, List.map_append, List.nodup_append, List.nodup_append] at h1
  obtain ⟨⟨n1, n2, n3⟩, n4, n5⟩ := h1
  constructor
  · refine dv_of ?_ (fun x hx => dv_mem h ?_)
    · rw [List.map_append, List.nodup_append]
      exact ⟨n1, n4, fun a ha b hb => n5 a (List.mem_append_left _ ha) b hb⟩
    · rcases List.mem_append.mp hx with hx | hx
      · exact List.mem_append_left _ (List.mem_append_left _ hx)
      · exact List.mem_append_right _ hx
  · intro x hx y hy
    have hy1 : y.1 ∈ Q.map Prod.fst := List.mem_map.mpr ⟨y, hy, rfl⟩
    rcases List.mem_append.mp hx with hx | hx
    · exact n3 x.1 (List.mem_map.mpr ⟨x, hx, rfl⟩) y.1 hy1
    · exact fun e => n5 y.1 (List.mem_append_right _ hy1) x.1 (List.mem_map.mpr ⟨x, hx, rfl⟩) e.symm
theorem pv_split {D : va_G} {cl : List vw_C} {P Q R : va_W} {H : Heap} (h : va_P D cl ((P ++ Q) ++ R) H) : va_P D cl (P ++ R) H ∧ va_P D cl Q H := by
  have key : ∀ x, x ∈ (P ++ Q) ++ R → va_at D cl x H := fun x hx => by
    obtain ⟨k, hk⟩ := List.getElem?_of_mem hx
    exact h k x hk
  constructor
  · intro k x hk
    rcases List.mem_append.mp (List.mem_of_getElem? hk) with hx | hx
    · exact key x (List.mem_append_left _ (List.mem_append_left _ hx))
    · exact key x (List.mem_append_right _ hx)
  · intro k x hk
    exact key x (List.mem_append_left _ (List.mem_append_right _ (List.mem_of_getElem? hk)))
/-- what is left of whole: a statement of pure functions alone -/
def PureP : Prop := ∀ (L : Nat) (xs : Nat → Int32), L ≤ 3072 → ∃ (K : Nat) (z8 z0 zA z1 m1 m2 : ow_MS) (SE : ow_LwS), ce_X8i_b8 K 24000 zeroS = some z8 ∧ ce_X0i_b0 K 41000 53001 zeroS = some z0 ∧ ce_X1i_b1 K 43000 zeroS = some zA ∧ ce_X1j_b1b K 43000 53001 (usZ zA [53]) = some z1 ∧ qe_X13_makeSimples_a K Z13 = some m1 ∧ qe_X13_makePermutations_a K m1 = some m2 ∧ ltrun K xs (L / 6) 0 (vl0, Zc z8 z0 z1, usZ m2 blM) = some SE
def xo11 : ow_Tb := (xl11 ++ [52001], (cX vl0).2)
theorem cko_L : (aL_chk xt11_19 xo11 52001 && ok_row xt11_19) = true := aL_fast (X1 := xo11) (ndB_nd (by decide +kernel)) (by decide +kernel)
theorem cko_c : nk_in xo11 (cX vl0) 7 = true := by decide +kernel
theorem cko_p : dPhi vl0 ≤ 2800000 := by decide +kernel
theorem dy_0 : decode cL_law 0 = .ok (.new 8, 3) := dw_at cL_law_k0 (p := 0) rfl (by decide +kernel)
theorem dy_3 : decode cL_law 3 = .ok (.dup, 1) := dw_at cL_law_k0 (p := 3) rfl (by decide +kernel)
theorem dy_4 : decode cL_law 4 = .ok (.invokespecial 127, 3) := dw_at cL_law_k0 (p := 4) rfl (by decide +kernel)
theorem dy_7 : decode cL_law 7 = .ok (.astore_n 1, 1) := dw_at cL_law_k0 (p := 7) rfl (by decide +kernel)
theorem dy_8 : decode cL_law 8 = .ok (.new 128, 3) := dw_at cL_law_k0 (p := 8) rfl (by decide +kernel)
theorem dy_11 : decode cL_law 11 = .ok (.dup, 1) := dw_at cL_law_k0 (p := 11) rfl (by decide +kernel)
theorem dy_12 : decode cL_law 12 = .ok (.invokespecial 130, 3) := dw_at cL_law_k0 (p := 12) rfl (by decide +kernel)
theorem dy_15 : decode cL_law 15 = .ok (.astore_n 2, 1) := dw_at cL_law_k0 (p := 15) rfl (by decide +kernel)
theorem dy_16 : decode cL_law 16 = .ok (.iconst 1, 1) := dw_at cL_law_k0 (p := 16) rfl (by decide +kernel)
theorem dy_17 : decode cL_law 17 = .ok (.newarray .long, 2) := dw_at cL_law_k0 (p := 17) rfl (by decide +kernel)
theorem dy_19 : decode cL_law 19 = .ok (.astore_n 3, 1) := dw_at cL_law_k0 (p := 19) rfl (by decide +kernel)
theorem dy_20 : decode cL_law 20 = .ok (.iconst 0, 1) := dw_at cL_law_k0 (p := 20) rfl (by decide +kernel)
theorem dy_21 : decode cL_law 21 = .ok (.istore 4, 2) := dw_at cL_law_k0 (p := 21) rfl (by decide +kernel)
theorem dy_1716 : decode cL_law 1716 = .ok (.iconst 1, 1) := dw_at cL_law_k3 (p := 6) rfl (by decide +kernel)
theorem dy_1717 : decode cL_law 1717 = .ok (.ireturn, 1) := dw_at cL_law_k3 (p := 7) rfl (by decide +kernel)
set_option maxHeartbeats 4000000 in
set_option maxRecDepth 100000 in
theorem whole_pure {p : Program} {e : Env} {s : State} {m : MethodId} {below : List Frame} {meth : Method} {c : Code} (hpure : PureP) (l : Launch) (hlt : l.stackTraces = false) {b L : Nat} {xs : Nat → Int32} (hL : L ≤ 3072) (C0 : lw_At p s m meth c b L xs) : W p l e room_1 s m #[Value.ref b] below meth c s.heap [] 0 0 (lw_Z below #[Value.ref b] s) (entryFrame m ([Value.ref b] : List Value).toArray 8) := by
  obtain ⟨K, z8, z0, zA, z1, m1, m2, SE, hq8, hq0, hqA, hqB, hm1, hm2, hrun⟩ := hpure L xs hL
  obtain ⟨hx, hb, hr, hml, hown, hts, hX, hbl, hlocks, hgv⟩ := id C0
  have hown : s.vm.findClass RL = some m.cls := hown
  have hA : ∀ q : Nat, s.heap.size ≤ q → lx_A s q := fun _ h => h
  obtain ⟨c0, i0, hk0⟩ := u_known (C := RJ0) (T := TJ0) (N := 4) (n := 4) hts zn_J0 (hts (.instantiable RJ0 4) zw_359)
  obtain ⟨c1, i1, hk1⟩ := u_known (C := RJ4) (T := TJ4) (N := 4) (n := 4) hts zn_J4 (hts (.instantiable RJ4 4) zw_360)
  obtain ⟨c2, i2, hk2⟩ := u_known (C := RJx00060) (T := TJx00060) (N := 6) (n := 6) hts zn_Jx00060 (hts (.instantiable RJx00060 6) zw_361)
  obtain ⟨c3, i3, hk3⟩ := u_known (C := RX0) (T := TX0) (N := 16) (n := 16) hts yn_X0 (hts (.instantiable RX0 16) zw_36)
  obtain ⟨c4, i4, hk4⟩ := u_known (C := RX1) (T := TX1) (N := 20) (n := 20) hts yn_X1 (hts (.instantiable RX1 20) zw_32)
  obtain ⟨c5, i5, hk5⟩ := u_known (C := RX2) (T := TX2) (N := 6) (n := 6) hts yn_X2 (hts (.instantiable RX2 6) zw_4)
  obtain ⟨c6, i6, hk6⟩ := u_known (C := RX3) (T := TX3) (N := 5) (n := 5) hts yn_X3 (hts (.instantiable RX3 5) zw_19)
  obtain ⟨c7, i7, hk7⟩ := u_known (C := RX4) (T := TX4) (N := 8) (n := 8) hts yn_X4 (hts (.instantiable RX4 8) zw_8)
  obtain ⟨c8, i8, hk8⟩ := u_known (C := RX5) (T := TX5) (N := 6) (n := 6) hts yn_X5 (hts (.instantiable RX5 6) zw_71)
  obtain ⟨c9, i9, hk9⟩ := u_known (C := RX6) (T := TX6) (N := 8) (n := 8) hts yn_X6 (hts (.instantiable RX6 8) zw_44)
  obtain ⟨c10, i10, hk10⟩ := u_known (C := RX7) (T := TX7) (N := 11) (n := 11) hts yn_X7 (hts (.instantiable RX7 11) zw_13)
  obtain ⟨c11, i11, hk11⟩ := u_known (C := RX8) (T := TX8) (N := 9) (n := 9) hts yn_X8 (hts (.instantiable RX8 9) zw_40)
  obtain ⟨c12, i12, hk12⟩ := u_known (C := RX9) (T := TX9) (N := 6) (n := 6) hts yn_X9 (hts (.instantiable RX9 6) zw_0)
  obtain ⟨c13, i13, hk13⟩ := u_known (C := RX10) (T := TX10) (N := 11) (n := 11) hts yn_X10 (hts (.instantiable RX10 11) zw_66)
  obtain ⟨c14, i14, hk14⟩ := u_known (C := RX11) (T := TX11) (N := 19) (n := 19) hts yn_X11 (hts (.instantiable RX11 19) zw_362)
  obtain ⟨c15, i15, hk15⟩ := u_known (C := RX12) (T := TX12) (N := 16) (n := 16) hts yn_X12 (hts (.instantiable RX12 16) zw_212)
  obtain ⟨c16, i16, hk16⟩ := u_known (C := RX13) (T := TX13) (N := 120) (n := 120) hts yn_X13 (hts (.instantiable RX13 120) zw_363)
  obtain ⟨dC, dI, hKc⟩ : ∃ (dC : Nat → ClassId) (dI : Nat → Nat → Nat), ∀ (k : Nat) (q : vw_C), vwCl[k]? = some q → u_Kn s q.1 q.2.1 q.2.2 (dC k) (dI k) := by
    refine ⟨fun k => ([c0, c1, c2, c3, c4, c5, c6, c7, c8, c9, c10, c11, c12, c13, c14, c15, c16] : List ClassId).getD k c0, fun k => ([i0, i1, i2, i3, i4, i5, i6, i7, i8, i9, i10, i11, i12, i13, i14, i15, i16] : List (Nat → Nat)).getD k i0, ?_⟩
    intro k q hq
    match k, hq with
    | 0, hq => cases hq; exact hk0
    | 1, hq => cases hq; exact hk1
    | 2, hq => cases hq; exact hk2
    | 3, hq => cases hq; exact hk3
    | 4, hq => cases hq; exact hk4
    | 5, hq => cases hq; exact hk5
    | 6, hq => cases hq; exact hk6
    | 7, hq => cases hq; exact hk7
    | 8, hq => cases hq; exact hk8
    | 9, hq => cases hq; exact hk9
    | 10, hq => cases hq; exact hk10
    | 11, hq => cases hq; exact hk11
    | 12, hq => cases hq; exact hk12
    | 13, hq => cases hq; exact hk13
    | 14, hq => cases hq; exact hk14
    | 15, hq => cases hq; exact hk15
    | 16, hq => cases hq; exact hk16
    | k + 17, hq => simp [vwCl] at hq
  obtain ⟨cI, ha_cI, hb_cI⟩ := yo_ary (ty := .int) (hts (.arrayClass .int) zw_27) (fun _ h => h)
  obtain ⟨cB, ha_cB, hb_cB⟩ := yo_ary (ty := .byte) (hts (.arrayClass .byte) zw_29) (fun _ h => h)
  obtain ⟨cJ, ha_cJ, hb_cJ⟩ := yo_ary (ty := .long) (hts (.arrayClass .long) zw_86) (fun _ h => h)
  obtain ⟨cZ, ha_cZ, hb_cZ⟩ := yo_ary (ty := .boolean) (hts (.arrayClass .boolean) zw_160) (fun _ h => h)
  have hOI : ow_AO .int s := ow_AO.of (hts (.arrayOver (.array .int)) zw_364)
  have hOJ : ow_AO .long s := ow_AO.of (hts (.arrayOver (.array .long)) zw_365)
  have hAO : va_AO RX7 s := va_AO.of (hts (.arrayOver (.object RX7)) zw_366)
  have hAO12 : va_AO RX12 s := va_AO.of (hts (.arrayOver (.object RX12)) zw_367)
  obtain ⟨cN, ha_cN, hb_cN⟩ := yo_objs (C := RX7) (hts (.arrayOver (.object RX7)) zw_366) rfl
  obtain ⟨cM, ha_cM, hb_cM⟩ := yo_objs (C := RX12) (hts (.arrayOver (.object RX12)) zw_367) rfl
  obtain ⟨cG, ha_cG, hb_cG⟩ := yo_grid hOI
  obtain ⟨cH, ha_cH, hb_cH⟩ := yo_grid hOJ
  obtain ⟨q, hqd⟩ : ∃ q : Nat → ClassId, q = fun i => ([cI, cB, cJ, cZ, cN, cG, cH] : List ClassId).getD i cI := ⟨_, rfl⟩
  have hK : va_K (dC, dI) vwCl (uw_T q RX7) s := ⟨hKc, fun k x h => by
    subst hqd
    match k, h with
    | 0, h => cases h; exact ⟨ha_cI, hb_cI⟩
    | 1, h => cases h; exact ⟨ha_cB, hb_cB⟩
    | 2, h => cases h; exact ⟨ha_cJ, hb_cJ⟩
    | 3, h => cases h; exact ⟨ha_cZ, hb_cZ⟩
    | 4, h => cases h; exact ⟨ha_cN, hb_cN⟩
    | 5, h => cases h; exact ⟨ha_cG, hb_cG⟩
    | 6, h => cases h; exact ⟨ha_cH, hb_cH⟩
    | k + 7, h => simp [uw_T] at h⟩
  have hK5 : va_K (dC, dI) vwCl (tw_T (cI, cB, cJ, cZ, cM) RX12) s := ⟨hKc, fun k x h => by
    match k, h with
    | 0, h => cases h; exact ⟨ha_cI, hb_cI⟩
    | 1, h => cases h; exact ⟨ha_cB, hb_cB⟩
    | 2, h => cases h; exact ⟨ha_cJ, hb_cJ⟩
    | 3, h => cases h; exact ⟨ha_cZ, hb_cZ⟩
    | 4, h => cases h; exact ⟨ha_cM, hb_cM⟩
    | k + 5, h => simp [tw_T] at h⟩
  generalize ((cI, cB, cJ, cZ, cM) : ow_Q5) = q5 at hK5
  clear hqd
  have hfl := flat_of_before _ hgv
  obtain ⟨sa0, hs0⟩ := yo_str (own := RX11) (k := 120) (tx := "the tape is full") (hts (.stringRef RX11 120 "the tape is full") zw_368) (hfl (.exactly (.string "KnotHouse" 120) "java/lang/String") (by decide +kernel))
  obtain ⟨sa1, hs1⟩ := yo_str (own := RX11) (k := 130) (tx := "the tape has not so many bytes") (hts (.stringRef RX11 130 "the tape has not so many bytes") zw_369) (hfl (.exactly (.string "KnotHouse" 130) "java/lang/String") (by decide +kernel))
  obtain ⟨sa2, hs2⟩ := yo_str (own := RX11) (k := 149) (tx := "a braid has 2 to 5 strands") (hts (.stringRef RX11 149 "a braid has 2 to 5 strands") zw_370) (hfl (.exactly (.string "KnotHouse" 149) "java/lang/String") (by decide +kernel))
  obtain ⟨sa3, hs3⟩ := yo_str (own := RX11) (k := 166) (tx := "no such diagram") (hts (.stringRef RX11 166 "no such diagram") zw_371) (hfl (.exactly (.string "KnotHouse" 166) "java/lang/String") (by decide +kernel))
  obtain ⟨sa4, hs4⟩ := yo_str (own := RX11) (k := 172) (tx := "no such braid") (hts (.stringRef RX11 172 "no such braid") zw_372) (hfl (.exactly (.string "KnotHouse" 172) "java/lang/String") (by decide +kernel))
  obtain ⟨sa5, hs5⟩ := yo_str (own := RX11) (k := 174) (tx := "no place is free for a diagram") (hts (.stringRef RX11 174 "no place is free for a diagram") zw_373) (hfl (.exactly (.string "KnotHouse" 174) "java/lang/String") (by decide +kernel))
  obtain ⟨sa6, hs6⟩ := yo_str (own := RX11) (k := 176) (tx := "no place is free for a braid") (hts (.stringRef RX11 176 "no place is free for a braid") zw_374) (hfl (.exactly (.string "KnotHouse" 176) "java/lang/String") (by decide +kernel))
  obtain ⟨sa7, hs7⟩ := yo_str (own := RX11) (k := 192) (tx := "there are six figures") (hts (.stringRef RX11 192 "there are six figures") zw_375) (hfl (.exactly (.string "KnotHouse" 192) "java/lang/String") (by decide +kernel))
  obtain ⟨sa8, hs8⟩ := yo_str (own := RX11) (k := 222) (tx := "no such visit") (hts (.stringRef RX11 222 "no such visit") zw_376) (hfl (.exactly (.string "KnotHouse" 222) "java/lang/String") (by decide +kernel))
  obtain ⟨sa9, hs9⟩ := yo_str (own := RX11) (k := 224) (tx := "a visit has four numbers") (hts (.stringRef RX11 224 "a visit has four numbers") zw_377) (hfl (.exactly (.string "KnotHouse" 224) "java/lang/String") (by decide +kernel))
  obtain ⟨sa10, hs10⟩ := yo_str (own := RX11) (k := 238) (tx := "two components are needed") (hts (.stringRef RX11 238 "two components are needed") zw_378) (hfl (.exactly (.string "KnotHouse" 238) "java/lang/String") (by decide +kernel))
  obtain ⟨sa11, hs11⟩ := yo_str (own := RX11) (k := 240) (tx := "no such component") (hts (.stringRef RX11 240 "no such component") zw_379) (hfl (.exactly (.string "KnotHouse" 240) "java/lang/String") (by decide +kernel))
  obtain ⟨sa12, hs12⟩ := yo_str (own := RX11) (k := 242) (tx := "no such crossing") (hts (.stringRef RX11 242 "no such crossing") zw_380) (hfl (.exactly (.string "KnotHouse" 242) "java/lang/String") (by decide +kernel))
  obtain ⟨sa13, hs13⟩ := yo_str (own := RX11) (k := 265) (tx := "more than 6 components") (hts (.stringRef RX11 265 "more than 6 components") zw_381) (hfl (.exactly (.string "KnotHouse" 265) "java/lang/String") (by decide +kernel))
  obtain ⟨sa14, hs14⟩ := yo_str (own := RX11) (k := 279) (tx := "more than 12 crossings or 6 components") (hts (.stringRef RX11 279 "more than 12 crossings or 6 components") zw_382) (hfl (.exactly (.string "KnotHouse" 279) "java/lang/String") (by decide +kernel))
  obtain ⟨sa15, hs15⟩ := yo_str (own := RX11) (k := 281) (tx := "there are five kinds of moves") (hts (.stringRef RX11 281 "there are five kinds of moves") zw_383) (hfl (.exactly (.string "KnotHouse" 281) "java/lang/String") (by decide +kernel))
  obtain ⟨sa16, hs16⟩ := yo_str (own := RX11) (k := 294) (tx := "so many were not found") (hts (.stringRef RX11 294 "so many were not found") zw_384) (hfl (.exactly (.string "KnotHouse" 294) "java/lang/String") (by decide +kernel))
  obtain ⟨sa17, hs17⟩ := yo_str (own := RX11) (k := 303) (tx := "more than 4 crossings") (hts (.stringRef RX11 303 "more than 4 crossings") zw_385) (hfl (.exactly (.string "KnotHouse" 303) "java/lang/String") (by decide +kernel))
  obtain ⟨sa18, hs18⟩ := yo_str (own := RX11) (k := 350) (tx := "colours are counted modulo 1 to 100") (hts (.stringRef RX11 350 "colours are counted modulo 1 to 100") zw_386) (hfl (.exactly (.string "KnotHouse" 350) "java/lang/String") (by decide +kernel))
  obtain ⟨sa19, hs19⟩ := yo_str (own := RX11) (k := 356) (tx := "permutations are of 1 to 4 things") (hts (.stringRef RX11 356 "permutations are of 1 to 4 things") zw_387) (hfl (.exactly (.string "KnotHouse" 356) "java/lang/String") (by decide +kernel))
  obtain ⟨sa20, hs20⟩ := yo_str (own := RX11) (k := 358) (tx := "more than 7 crossings or 4 components") (hts (.stringRef RX11 358 "more than 7 crossings or 4 components") zw_388) (hfl (.exactly (.string "KnotHouse" 358) "java/lang/String") (by decide +kernel))
  obtain ⟨sa21, hs21⟩ := yo_str (own := RX11) (k := 367) (tx := "a prime from 2 to 997 is needed") (hts (.stringRef RX11 367 "a prime from 2 to 997 is needed") zw_389) (hfl (.exactly (.string "KnotHouse" 367) "java/lang/String") (by decide +kernel))
  obtain ⟨sa22, hs22⟩ := yo_str (own := RX11) (k := 369) (tx := "more than 9 crossings and parts") (hts (.stringRef RX11 369 "more than 9 crossings and parts") zw_390) (hfl (.exactly (.string "KnotHouse" 369) "java/lang/String") (by decide +kernel))
  obtain ⟨sa23, hs23⟩ := yo_str (own := RX11) (k := 382) (tx := "more than 12 letters") (hts (.stringRef RX11 382 "more than 12 letters") zw_391) (hfl (.exactly (.string "KnotHouse" 382) "java/lang/String") (by decide +kernel))
  obtain ⟨sa24, hs24⟩ := yo_str (own := RX11) (k := 388) (tx := "as many strands are needed") (hts (.stringRef RX11 388 "as many strands are needed") zw_392) (hfl (.exactly (.string "KnotHouse" 388) "java/lang/String") (by decide +kernel))
  obtain ⟨sa25, hs25⟩ := yo_str (own := RX11) (k := 390) (tx := "more than 16 letters") (hts (.stringRef RX11 390 "more than 16 letters") zw_393) (hfl (.exactly (.string "KnotHouse" 390) "java/lang/String") (by decide +kernel))
  obtain ⟨sa26, hs26⟩ := yo_str (own := RX11) (k := 404) (tx := "there are four numbers of a braid") (hts (.stringRef RX11 404 "there are four numbers of a braid") zw_394) (hfl (.exactly (.string "KnotHouse" 404) "java/lang/String") (by decide +kernel))
  obtain ⟨sa27, hs27⟩ := yo_str (own := RX11) (k := 432) (tx := "summit sets are for 2 to 4 strands") (hts (.stringRef RX11 432 "summit sets are for 2 to 4 strands") zw_395) (hfl (.exactly (.string "KnotHouse" 432) "java/lang/String") (by decide +kernel))
  obtain ⟨sa28, hs28⟩ := yo_str (own := RX11) (k := 434) (tx := "more than 10 letters") (hts (.stringRef RX11 434 "more than 10 letters") zw_396) (hfl (.exactly (.string "KnotHouse" 434) "java/lang/String") (by decide +kernel))
  have hz1 : vx_Zq Bundle.tN "UNASSIGNED_STACK" Bundle.steD (lx_A s) s s.heap := vx_Zqof (hts (.laysStatic "java/lang/Throwable" "UNASSIGNED_STACK" "[Ljava/lang/StackTraceElement;") zw_397) (hts (.initialized "java/lang/Throwable") zw_398) (hfl (.isRef (.static "java/lang/Throwable" "UNASSIGNED_STACK" "[Ljava/lang/StackTraceElement;")) (by decide +kernel)) (fun a ha => Nat.not_le.mpr ha)
  have hz2 : vx_Zq Bundle.tN "SUPPRESSED_SENTINEL" Bundle.listD (lx_A s) s s.heap := vx_Zqof (hts (.laysStatic "java/lang/Throwable" "SUPPRESSED_SENTINEL" "Ljava/util/List;") zw_399) (hts (.initialized "java/lang/Throwable") zw_398) (hfl (.isRef (.static "java/lang/Throwable" "SUPPRESSED_SENTINEL" "Ljava/util/List;")) (by decide +kernel)) (fun a ha => Nat.not_le.mpr ha)
  have hxs1 : ct_Xs (thN 1) s := ⟨va_Nw.of rfl (hts (.declares (Bundle.initS "java/lang/RuntimeException")) zwd_RuntimeException), va_Nw.of rfl (hts (.declares (Bundle.initS "java/lang/Exception")) zwd_Exception), va_Nw.of rfl (hts (.declares (Bundle.initS Bundle.tN)) zwd_Throwable), va_Nw.of rfl (hts (.castable "java/lang/IndexOutOfBoundsException" "java/lang/IndexOutOfBoundsException") zw_403)⟩
  have hxs2 : ct_Xs (thN 2) s := ⟨va_Nw.of rfl (hts (.declares (Bundle.initS "java/lang/RuntimeException")) zwd_RuntimeException), va_Nw.of rfl (hts (.declares (Bundle.initS "java/lang/Exception")) zwd_Exception), va_Nw.of rfl (hts (.declares (Bundle.initS Bundle.tN)) zwd_Throwable), va_Nw.of rfl (hts (.castable "java/lang/IllegalArgumentException" "java/lang/IllegalArgumentException") zw_404)⟩
  have hxs3 : ct_Xs (thN 3) s := ⟨va_Nw.of rfl (hts (.declares (Bundle.initS "java/lang/RuntimeException")) zwd_RuntimeException), va_Nw.of rfl (hts (.declares (Bundle.initS "java/lang/Exception")) zwd_Exception), va_Nw.of rfl (hts (.declares (Bundle.initS Bundle.tN)) zwd_Throwable), va_Nw.of rfl (hts (.castable "java/lang/IllegalStateException" "java/lang/IllegalStateException") zw_405)⟩
  have hxs4 : ct_Xs (thN 4) s := ⟨va_Nw.of rfl (hts (.declares (Bundle.initS "java/lang/RuntimeException")) zwd_RuntimeException), va_Nw.of rfl (hts (.declares (Bundle.initS "java/lang/Exception")) zwd_Exception), va_Nw.of rfl (hts (.declares (Bundle.initS Bundle.tN)) zwd_Throwable), va_Nw.of rfl (hts (.castable "java/lang/UnsupportedOperationException" "java/lang/UnsupportedOperationException") zw_406)⟩
  obtain ⟨sa, hsa⟩ : ∃ sa : Nat → Nat, sa 120 = sa0 ∧ sa 130 = sa1 ∧ sa 149 = sa2 ∧ sa 166 = sa3 ∧ sa 172 = sa4 ∧ sa 174 = sa5 ∧ sa 176 = sa6 ∧ sa 192 = sa7 ∧ sa 222 = sa8 ∧ sa 224 = sa9 ∧ sa 238 = sa10 ∧ sa 240 = sa11 ∧ sa 242 = sa12 ∧ sa 265 = sa13 ∧ sa 279 = sa14 ∧ sa 281 = sa15 ∧ sa 294 = sa16 ∧ sa 303 = sa17 ∧ sa 350 = sa18 ∧ sa 356 = sa19 ∧ sa 358 = sa20 ∧ sa 367 = sa21 ∧ sa 369 = sa22 ∧ sa 382 = sa23 ∧ sa 388 = sa24 ∧ sa 390 = sa25 ∧ sa 404 = sa26 ∧ sa 432 = sa27 ∧ sa 434 = sa28 := ⟨fun k => if k = 120 then sa0 else if k = 130 then sa1 else if k = 149 then sa2 else if k = 166 then sa3 else if k = 172 then sa4 else if k = 174 then sa5 else if k = 176 then sa6 else if k = 192 then sa7 else if k = 222 then sa8 else if k = 224 then sa9 else if k = 238 then sa10 else if k = 240 then sa11 else if k = 242 then sa12 else if k = 265 then sa13 else if k = 279 then sa14 else if k = 281 then sa15 else if k = 294 then sa16 else if k = 303 then sa17 else if k = 350 then sa18 else if k = 356 then sa19 else if k = 358 then sa20 else if k = 367 then sa21 else if k = 369 then sa22 else if k = 382 then sa23 else if k = 388 then sa24 else if k = 390 then sa25 else if k = 404 then sa26 else if k = 432 then sa27 else if k = 434 then sa28 else 0, rfl, rfl, rfl, rfl, rfl, rfl, rfl, rfl, rfl, rfl, rfl, rfl, rfl, rfl, rfl, rfl, rfl, rfl, rfl, rfl, rfl, rfl, rfl, rfl, rfl, rfl, rfl, rfl, rfl⟩
  have hTh : cw_Th (lx_A s) sa s := (List.forall_mem_cons.mpr ⟨(show ct_Th1 (lx_A s) 120 "the tape is full" (sa 120) (thN 3) s from ⟨by rw [hsa.1]; exact hs0, hz1, hz2, hxs3⟩), (List.forall_mem_cons.mpr ⟨(show ct_Th1 (lx_A s) 130 "the tape has not so many bytes" (sa 130) (thN 2) s from ⟨by rw [hsa.2.1]; exact hs1, hz1, hz2, hxs2⟩), (List.forall_mem_cons.mpr ⟨(show ct_Th1 (lx_A s) 149 "a braid has 2 to 5 strands" (sa 149) (thN 2) s from ⟨by rw [hsa.2.2.1]; exact hs2, hz1, hz2, hxs2⟩), (List.forall_mem_cons.mpr ⟨(show ct_Th1 (lx_A s) 166 "no such diagram" (sa 166) (thN 1) s from ⟨by rw [hsa.2.2.2.1]; exact hs3, hz1, hz2, hxs1⟩), (List.forall_mem_cons.mpr ⟨(show ct_Th1 (lx_A s) 172 "no such braid" (sa 172) (thN 1) s from ⟨by rw [hsa.2.2.2.2.1]; exact hs4, hz1, hz2, hxs1⟩), (List.forall_mem_cons.mpr ⟨(show ct_Th1 (lx_A s) 174 "no place is free for a diagram" (sa 174) (thN 3) s from ⟨by rw [hsa.2.2.2.2.2.1]; exact hs5, hz1, hz2, hxs3⟩), (List.forall_mem_cons.mpr ⟨(show ct_Th1 (lx_A s) 176 "no place is free for a braid" (sa 176) (thN 3) s from ⟨by rw [hsa.2.2.2.2.2.2.1]; exact hs6, hz1, hz2, hxs3⟩), (List.forall_mem_cons.mpr ⟨(show ct_Th1 (lx_A s) 192 "there are six figures" (sa 192) (thN 2) s from ⟨by rw [hsa.2.2.2.2.2.2.2.1]; exact hs7, hz1, hz2, hxs2⟩), (List.forall_mem_cons.mpr ⟨(show ct_Th1 (lx_A s) 222 "no such visit" (sa 222) (thN 1) s from ⟨by rw [hsa.2.2.2.2.2.2.2.2.1]; exact hs8, hz1, hz2, hxs1⟩), (List.forall_mem_cons.mpr ⟨(show ct_Th1 (lx_A s) 224 "a visit has four numbers" (sa 224) (thN 2) s from ⟨by rw [hsa.2.2.2.2.2.2.2.2.2.1]; exact hs9, hz1, hz2, hxs2⟩), (List.forall_mem_cons.mpr ⟨(show ct_Th1 (lx_A s) 238 "two components are needed" (sa 238) (thN 2) s from ⟨by rw [hsa.2.2.2.2.2.2.2.2.2.2.1]; exact hs10, hz1, hz2, hxs2⟩), (List.forall_mem_cons.mpr ⟨(show ct_Th1 (lx_A s) 240 "no such component" (sa 240) (thN 1) s from ⟨by rw [hsa.2.2.2.2.2.2.2.2.2.2.2.1]; exact hs11, hz1, hz2, hxs1⟩), (List.forall_mem_cons.mpr ⟨(show ct_Th1 (lx_A s) 242 "no such crossing" (sa 242) (thN 1) s from ⟨by rw [hsa.2.2.2.2.2.2.2.2.2.2.2.2.1]; exact hs12, hz1, hz2, hxs1⟩), (List.forall_mem_cons.mpr ⟨(show ct_Th1 (lx_A s) 265 "more than 6 components" (sa 265) (thN 4) s from ⟨by rw [hsa.2.2.2.2.2.2.2.2.2.2.2.2.2.1]; exact hs13, hz1, hz2, hxs4⟩), (List.forall_mem_cons.mpr ⟨(show ct_Th1 (lx_A s) 279 "more than 12 crossings or 6 components" (sa 279) (thN 4) s from ⟨by rw [hsa.2.2.2.2.2.2.2.2.2.2.2.2.2.2.1]; exact hs14, hz1, hz2, hxs4⟩), (List.forall_mem_cons.mpr ⟨(show ct_Th1 (lx_A s) 281 "there are five kinds of moves" (sa 281) (thN 2) s from ⟨by rw [hsa.2.2.2.2.2.2.2.2.2.2.2.2.2.2.2.1]; exact hs15, hz1, hz2, hxs2⟩), (List.forall_mem_cons.mpr ⟨(show ct_Th1 (lx_A s) 294 "so many were not found" (sa 294) (thN 1) s from ⟨by rw [hsa.2.2.2.2.2.2.2.2.2.2.2.2.2.2.2.2.1]; exact hs16, hz1, hz2, hxs1⟩), (List.forall_mem_cons.mpr ⟨(show ct_Th1 (lx_A s) 303 "more than 4 crossings" (sa 303) (thN 4) s from ⟨by rw [hsa.2.2.2.2.2.2.2.2.2.2.2.2.2.2.2.2.2.1]; exact hs17, hz1, hz2, hxs4⟩), (List.forall_mem_cons.mpr ⟨(show ct_Th1 (lx_A s) 350 "colours are counted modulo 1 to 100" (sa 350) (thN 2) s from ⟨by rw [hsa.2.2.2.2.2.2.2.2.2.2.2.2.2.2.2.2.2.2.1]; exact hs18, hz1, hz2, hxs2⟩), (List.forall_mem_cons.mpr ⟨(show ct_Th1 (lx_A s) 356 "permutations are of 1 to 4 things" (sa 356) (thN 2) s from ⟨by rw [hsa.2.2.2.2.2.2.2.2.2.2.2.2.2.2.2.2.2.2.2.1]; exact hs19, hz1, hz2, hxs2⟩), (List.forall_mem_cons.mpr ⟨(show ct_Th1 (lx_A s) 358 "more than 7 crossings or 4 components" (sa 358) (thN 4) s from ⟨by rw [hsa.2.2.2.2.2.2.2.2.2.2.2.2.2.2.2.2.2.2.2.2.1]; exact hs20, hz1, hz2, hxs4⟩), (List.forall_mem_cons.mpr ⟨(show ct_Th1 (lx_A s) 367 "a prime from 2 to 997 is needed" (sa 367) (thN 2) s from ⟨by rw [hsa.2.2.2.2.2.2.2.2.2.2.2.2.2.2.2.2.2.2.2.2.2.1]; exact hs21, hz1, hz2, hxs2⟩), (List.forall_mem_cons.mpr ⟨(show ct_Th1 (lx_A s) 369 "more than 9 crossings and parts" (sa 369) (thN 4) s from ⟨by rw [hsa.2.2.2.2.2.2.2.2.2.2.2.2.2.2.2.2.2.2.2.2.2.2.1]; exact hs22, hz1, hz2, hxs4⟩), (List.forall_mem_cons.mpr ⟨(show ct_Th1 (lx_A s) 382 "more than 12 letters" (sa 382) (thN 4) s from ⟨by rw [hsa.2.2.2.2.2.2.2.2.2.2.2.2.2.2.2.2.2.2.2.2.2.2.2.1]; exact hs23, hz1, hz2, hxs4⟩), (List.forall_mem_cons.mpr ⟨(show ct_Th1 (lx_A s) 388 "as many strands are needed" (sa 388) (thN 2) s from ⟨by rw [hsa.2.2.2.2.2.2.2.2.2.2.2.2.2.2.2.2.2.2.2.2.2.2.2.2.1]; exact hs24, hz1, hz2, hxs2⟩), (List.forall_mem_cons.mpr ⟨(show ct_Th1 (lx_A s) 390 "more than 16 letters" (sa 390) (thN 4) s from ⟨by rw [hsa.2.2.2.2.2.2.2.2.2.2.2.2.2.2.2.2.2.2.2.2.2.2.2.2.2.1]; exact hs25, hz1, hz2, hxs4⟩), (List.forall_mem_cons.mpr ⟨(show ct_Th1 (lx_A s) 404 "there are four numbers of a braid" (sa 404) (thN 2) s from ⟨by rw [hsa.2.2.2.2.2.2.2.2.2.2.2.2.2.2.2.2.2.2.2.2.2.2.2.2.2.2.1]; exact hs26, hz1, hz2, hxs2⟩), (List.forall_mem_cons.mpr ⟨(show ct_Th1 (lx_A s) 432 "summit sets are for 2 to 4 strands" (sa 432) (thN 4) s from ⟨by rw [hsa.2.2.2.2.2.2.2.2.2.2.2.2.2.2.2.2.2.2.2.2.2.2.2.2.2.2.2.1]; exact hs27, hz1, hz2, hxs4⟩), (List.forall_mem_cons.mpr ⟨(show ct_Th1 (lx_A s) 434 "more than 10 letters" (sa 434) (thN 4) s from ⟨by rw [hsa.2.2.2.2.2.2.2.2.2.2.2.2.2.2.2.2.2.2.2.2.2.2.2.2.2.2.2.2]; exact hs28, hz1, hz2, hxs4⟩), (fun _ h => absurd h List.not_mem_nil)⟩)⟩)⟩)⟩)⟩)⟩)⟩)⟩)⟩)⟩)⟩)⟩)⟩)⟩)⟩)⟩)⟩)⟩)⟩)⟩)⟩)⟩)⟩)⟩)⟩)⟩)⟩)⟩)⟩)
  have hNc : cw_Nc s := by
    intro i j hi hj hne
    simp only [List.mem_cons, List.not_mem_nil, or_false] at hi hj
    rcases hi with rfl | rfl | rfl | rfl <;> rcases hj with rfl | rfl | rfl | rfl
    · exact absurd rfl hne
    · exact va_Nc.of (hfl (.not (.castable "java/lang/IndexOutOfBoundsException" "java/lang/IllegalArgumentException")) (by decide +kernel))
    · exact va_Nc.of (hfl (.not (.castable "java/lang/IndexOutOfBoundsException" "java/lang/IllegalStateException")) (by decide +kernel))
    · exact va_Nc.of (hfl (.not (.castable "java/lang/IndexOutOfBoundsException" "java/lang/UnsupportedOperationException")) (by decide +kernel))
    · exact va_Nc.of (hfl (.not (.castable "java/lang/IllegalArgumentException" "java/lang/IndexOutOfBoundsException")) (by decide +kernel))
    · exact absurd rfl hne
    · exact va_Nc.of (hfl (.not (.castable "java/lang/IllegalArgumentException" "java/lang/IllegalStateException")) (by decide +kernel))
    · exact va_Nc.of (hfl (.not (.castable "java/lang/IllegalArgumentException" "java/lang/UnsupportedOperationException")) (by decide +kernel))
    · exact va_Nc.of (hfl (.not (.castable "java/lang/IllegalStateException" "java/lang/IndexOutOfBoundsException")) (by decide +kernel))
    · exact va_Nc.of (hfl (.not (.castable "java/lang/IllegalStateException" "java/lang/IllegalArgumentException")) (by decide +kernel))
    · exact absurd rfl hne
    · exact va_Nc.of (hfl (.not (.castable "java/lang/IllegalStateException" "java/lang/UnsupportedOperationException")) (by decide +kernel))
    · exact va_Nc.of (hfl (.not (.castable "java/lang/UnsupportedOperationException" "java/lang/IndexOutOfBoundsException")) (by decide +kernel))
    · exact va_Nc.of (hfl (.not (.castable "java/lang/UnsupportedOperationException" "java/lang/IllegalArgumentException")) (by decide +kernel))
    · exact va_Nc.of (hfl (.not (.castable "java/lang/UnsupportedOperationException" "java/lang/IllegalStateException")) (by decide +kernel))
    · exact absurd rfl hne
  have hNM : ow_NM s := (List.forall_mem_cons.mpr ⟨va_Nw.of rfl (hts (.fieldLinkNest RX13 18 "KnotHouseModel$Net" "comp" "[I" "KnotHouseModel") zw_421), (List.forall_mem_cons.mpr ⟨va_Nw.of rfl (hts (.fieldLinkNest RX13 23 "KnotHouseModel$Net" "cross" "[I" "KnotHouseModel") zw_420), (List.forall_mem_cons.mpr ⟨va_Nw.of rfl (hts (.fieldLinkNest RX13 32 "KnotHouseModel$Net" "under" "[I" "KnotHouseModel") zw_419), (List.forall_mem_cons.mpr ⟨va_Nw.of rfl (hts (.fieldLinkNest RX13 35 "KnotHouseModel$Net" "sign" "[I" "KnotHouseModel") zw_418), (List.forall_mem_cons.mpr ⟨va_Nw.of rfl (hts (.fieldLinkNest RX13 38 "KnotHouseModel$Net" "next" "[I" "KnotHouseModel") zw_417), (List.forall_mem_cons.mpr ⟨va_Nw.of rfl (hts (.fieldLinkNest RX13 41 "KnotHouseModel$Net" "mate" "[I" "KnotHouseModel") zw_416), (List.forall_mem_cons.mpr ⟨va_Nw.of rfl (hts (.fieldLinkNest RX13 44 "KnotHouseModel$Net" "visits" "I" "KnotHouseModel") zw_415), (List.forall_mem_cons.mpr ⟨va_Nw.of rfl (hts (.fieldLinkNest RX13 47 "KnotHouseModel$Net" "part" "[I" "KnotHouseModel") zw_414), (List.forall_mem_cons.mpr ⟨va_Nw.of rfl (hts (.fieldLinkNest RX13 78 "KnotHouseModel$Net" "parts" "I" "KnotHouseModel") zw_413), (List.forall_mem_cons.mpr ⟨va_Nw.of rfl (hts (.fieldLinkNest RX13 407 "KnotHouseModel$Net" "comps" "I" "KnotHouseModel") zw_412), (List.forall_mem_cons.mpr ⟨va_Nw.of rfl (hts (.fieldLinkNest RX13 452 "KnotHouseModel$Net" "begin" "[I" "KnotHouseModel") zw_411), (List.forall_mem_cons.mpr ⟨va_Nw.of rfl (hts (.fieldLinkNest RX13 519 "KnotHouseModel$Net" "faces" "I" "KnotHouseModel") zw_410), (List.forall_mem_cons.mpr ⟨va_Nw.of rfl (hts (.fieldLinkNest RX13 522 "KnotHouseModel$Net" "sides" "[I" "KnotHouseModel") zw_409), (List.forall_mem_cons.mpr ⟨va_Nw.of rfl (hts (.fieldLinkNest RX13 525 "KnotHouseModel$Net" "face" "[I" "KnotHouseModel") zw_408), (List.forall_mem_cons.mpr ⟨va_Nw.of rfl (hts (.fieldLinkNest RX13 581 "KnotHouseModel$Net" "prev" "[I" "KnotHouseModel") zw_407), (fun _ h => absurd h List.not_mem_nil)⟩)⟩)⟩)⟩)⟩)⟩)⟩)⟩)⟩)⟩)⟩)⟩)⟩)⟩)⟩)
  have hG : lx_G l s (dC, dI) q q5 sa := ⟨hlt, hK, hK5, hNM, hTh, hNc⟩
  have hN_X11_26 : va_Nw (.methodLinkNest RX11 26 yX7_init "KnotHouse") s := va_Nw.of rfl (hts (.methodLinkNest RX11 26 yX7_init "KnotHouse") zw_422)
  have hN_X11_36 : va_Nw (.methodLinkNest RX11 36 yX4_init "KnotHouse") s := va_Nw.of rfl (hts (.methodLinkNest RX11 36 yX4_init "KnotHouse") zw_423)
  have hN_X11_43 : va_Nw (.methodLinkNest RX11 43 yX2_init "KnotHouse") s := va_Nw.of rfl (hts (.methodLinkNest RX11 43 yX2_init "KnotHouse") zw_424)
  have hN_X11_50 : va_Nw (.methodLinkNest RX11 50 yX9_init "KnotHouse") s := va_Nw.of rfl (hts (.methodLinkNest RX11 50 yX9_init "KnotHouse") zw_425)
  have hN_X11_57 : va_Nw (.methodLinkNest RX11 57 yX6_init "KnotHouse") s := va_Nw.of rfl (hts (.methodLinkNest RX11 57 yX6_init "KnotHouse") zw_426)
  have hN_X11_96 : va_Nw (.methodLinkNest RX11 96 yX5_init "KnotHouse") s := va_Nw.of rfl (hts (.methodLinkNest RX11 96 yX5_init "KnotHouse") zw_427)
  have hN_X11_106 : va_Nw (.methodLinkNest RX11 106 yX10_init "KnotHouse") s := va_Nw.of rfl (hts (.methodLinkNest RX11 106 yX10_init "KnotHouse") zw_428)
  have hN_X6_28 : va_Nw (.methodLinkNest RX6 28 yX7_init "KnotHouse") s := va_Nw.of rfl (hts (.methodLinkNest RX6 28 yX7_init "KnotHouse") zw_429)
  have hN_X6_38 : va_Nw (.methodLinkNest RX6 38 yX4_init "KnotHouse") s := va_Nw.of rfl (hts (.methodLinkNest RX6 38 yX4_init "KnotHouse") zw_430)
  have hN_X6_48 : va_Nw (.methodLinkNest RX6 48 yX2_init "KnotHouse") s := va_Nw.of rfl (hts (.methodLinkNest RX6 48 yX2_init "KnotHouse") zw_431)
  have hN_X8_44 : va_Nw (.methodLinkNest RX8 44 yX7_init "KnotHouse") s := va_Nw.of rfl (hts (.methodLinkNest RX8 44 yX7_init "KnotHouse") zw_432)
  have hN_X1_11 : va_Nw (.methodLinkNest RX1 11 yX7_init "KnotHouse") s := va_Nw.of rfl (hts (.methodLinkNest RX1 11 yX7_init "KnotHouse") zw_433)
  have hN_X10_20 : va_Nw (.methodLinkNest RX10 20 yX5_init "KnotHouse") s := va_Nw.of rfl (hts (.methodLinkNest RX10 20 yX5_init "KnotHouse") zw_434)
  have hN_X13_113 : va_Nw (.methodLinkNest RX13 113 yX12_init "KnotHouseModel") s := va_Nw.of rfl (hts (.methodLinkNest RX13 113 yX12_init "KnotHouseModel") zw_435)
  have hS : va_S (lx_A s) s.heap s.heap [] := va_S.rf
  have hP : va_P (dC, dI) vwCl [] s.heap := fun k q h => by simp at h
  have hD : va_D (lx_A s) [] := ⟨fun i j p q h => by simp at h, fun k q h => by simp at h⟩
  have hl := lv_entry ([.ref b]) (n := 8) (Nat.le_of_ble_eq_true rfl)
  rw [lg_entry_eq]
  generalize (lg_sl ([.ref b]) ++ List.replicate (8 - (lg_sl ([.ref b])).length) Slot.unset).toArray = ls at hl ⊢
  have hl : lv_has ls 8 [(0, .ref b)] := hl
  refine va_new (ci := 14) (fs := nul11) (C := RX11) (T := TX11) (N := 19) hx hb hts yn_X11 tyX11 tyX11_ok hown (hts (.classLink RL 8 RX11) zw_436) (hts (.instantiable RX11 19) zw_362) (hts (.initialized RX11) zw_437) hK hP hD hS hA rfl (by decide +kernel) (Nat.le_of_ble_eq_true rfl) (Nat.le_of_ble_eq_true rfl) dy_0 (fun x H hP hD hS => ?_)
  refine W.widen (k := 1) (n := 19) (Nat.le_of_ble_eq_true rfl) (Nat.le_of_ble_eq_true rfl) ?_
  refine lv_dup hx hb dy_3 rfl ?_
  have hPc := al_subP hP
  have hDc := al_subD hD
  have hFc := al_freeC hD hS hA
  refine va_callv (va_runI (As := []) (rest := [.ref x]) ⟨hx, hb, hml, hown, hts⟩ (kh_X11_init l dC dI q x H.size K z8 z0 zA z1 hq8 hq0 hqA hqB) (cwI 0 hts gz_11 rfl rfl rfl (hts (.initialized RX11) zw_437) (hts (.methodLink RL 127 yX11_init) zw_438) (hts (.instanceMethod yX11_init) zw_439) rfl (by decide +kernel) ⟨(Nat.le_of_ble_eq_true rfl), (Nat.le_of_ble_eq_true rfl)⟩) ⟨fun a U g mk q => by obtain ⟨q0, q1, qP, qK, qD, n0, n1, n2, n3, n4, n5, n6, n7, n8, n9, n10, n11, n12, m1, m2, m3⟩ := q; exact ⟨q0, q1, qP, va_K.moved (u := U) (U := U.calling g mk a) (Vm.Alike.refl U.vm) qK, qD, va_Nw.same rfl rfl n0, va_Nw.same rfl rfl n1, va_Nw.same rfl rfl n2, va_Nw.same rfl rfl n3, va_Nw.same rfl rfl n4, va_Nw.same rfl rfl n5, va_Nw.same rfl rfl n6, va_Nw.same rfl rfl n7, va_Nw.same rfl rfl n8, va_Nw.same rfl rfl n9, va_Nw.same rfl rfl n10, va_Nw.same rfl rfl n11, va_Nw.same rfl rfl n12, ow_AO.moved (u := U) (U := U.calling g mk a) (Vm.Alike.refl U.vm) m1, ow_AO.moved (u := U) (U := U.calling g mk a) (Vm.Alike.refl U.vm) m2, va_AO.moved (u := U) (U := U.calling g mk a) (Vm.Alike.refl U.vm) m3⟩, fun U hU hW => ⟨rfl, by rw [hU], by rw [hU]; exact hPc, va_K.moved hW.alike hK, hDc.weaken (fun _ _ _ _ => trivial), va_Nw.warmM hW hN_X11_26, va_Nw.warmM hW hN_X11_36, va_Nw.warmM hW hN_X11_43, va_Nw.warmM hW hN_X11_50, va_Nw.warmM hW hN_X11_57, va_Nw.warmM hW hN_X11_96, va_Nw.warmM hW hN_X11_106, va_Nw.warmM hW hN_X6_28, va_Nw.warmM hW hN_X6_38, va_Nw.warmM hW hN_X6_48, va_Nw.warmM hW hN_X8_44, va_Nw.warmM hW hN_X1_11, va_Nw.warmM hW hN_X10_20, ow_AO.moved hW.alike hOI, ow_AO.moved hW.alike hOJ, va_AO.moved hW.alike hAO⟩⟩ rfl rfl hl.1 rfl (lv_room (Nat.le_of_ble_eq_true rfl)) dy_4 ⟨(Nat.le_of_ble_eq_true rfl), (Nat.le_of_ble_eq_true rfl)⟩) hS (fun q _ h => hFc q h) hFc (fun u t H1 locs ht hvm hw hB hz1 hk1 hS => ?_)
  obtain ⟨hu0, hP1, hD1⟩ := hB
  rw [ht] at hP1
  obtain ⟨hP2, hD2⟩ := al_join hP hD hk1 hFc hP1 hD1
  clear hP hD hPc hDc hFc hvm hw hz1 hk1 hP1 hD1 ht
  subst hu0
  generalize H1 = H at hP2 hS ⊢
  have hP := hP2
  have hD := hD2
  clear hP2 hD2
  refine W.widen (k := 363) (n := 178502) (Nat.le_of_ble_eq_true rfl) (Nat.le_of_ble_eq_true rfl) ?_
  refine lv_astore_n (lv' := [(1, .ref (u 0)), (0, .ref b)]) hx hb dy_7 rfl hl (by decide) rfl (fun ls hl => ?_)
  refine va_new (ci := 16) (fs := nul13) (C := RX13) (T := TX13) (N := 120) hx hb hts yn_X13 tyX13 tyX13_ok hown (hts (.classLink RL 128 RX13) zw_440) (hts (.instantiable RX13 120) zw_363) (hts (.initialized RX13) zw_329) hK hP hD hS hA rfl (by decide +kernel) (Nat.le_of_ble_eq_true rfl) (Nat.le_of_ble_eq_true rfl) dy_8 (fun y H hP hD hS => ?_)
  refine W.widen (k := 364) (n := 178622) (Nat.le_of_ble_eq_true rfl) (Nat.le_of_ble_eq_true rfl) ?_
  refine lv_dup hx hb dy_11 rfl ?_
  have hPc := al_subP hP
  have hDc := al_subD hD
  have hFc := al_freeC hD hS hA
  refine va_callv (va_runI (As := []) (rest := [.ref y]) ⟨hx, hb, hml, hown, hts⟩ (kh_X13_init l dC dI q5 y H.size K m1 m2 hm1 hm2) (cwI 0 hts gz_13 rfl rfl rfl (hts (.initialized RX13) zw_329) (hts (.methodLink RL 130 yX13_init) zw_441) (hts (.instanceMethod yX13_init) zw_442) rfl (by decide +kernel) ⟨(Nat.le_of_ble_eq_true rfl), (Nat.le_of_ble_eq_true rfl)⟩) ⟨fun a U g mk q => by obtain ⟨q0, q1, qP, qK, qD, n1, n2, n3⟩ := q; exact ⟨q0, q1, qP, va_K.moved (u := U) (U := U.calling g mk a) (Vm.Alike.refl U.vm) qK, qD, ow_NM.same (v := U) (U := U.calling g mk a) rfl n1, va_Nw.same rfl rfl n2, va_AO.moved (u := U) (U := U.calling g mk a) (Vm.Alike.refl U.vm) n3⟩, fun U hU hW => ⟨rfl, by rw [hU], by rw [hU]; exact hPc, va_K.moved hW.alike hK5, hDc.weaken (fun _ _ _ _ => trivial), ow_NM.warm hW hNM, va_Nw.warmM hW hN_X13_113, va_AO.moved hW.alike hAO12⟩⟩ rfl rfl hl.1 rfl (lv_room (Nat.le_of_ble_eq_true rfl)) dy_12 ⟨(Nat.le_of_ble_eq_true rfl), (Nat.le_of_ble_eq_true rfl)⟩) hS (fun q _ h => hFc q h) hFc (fun w t H1 locs ht hvm hw hB hz1 hk1 hS => ?_)
  obtain ⟨hw0, hP1, hI1, hI2⟩ := hB
  rw [ht] at hP1
  obtain ⟨hP2, hD2⟩ := al_join (w1 := tw mX q5 w (usZ m2 blM)) hP hD hk1 hFc hP1 (nk_mkD mX_ok.1 hI1 hI2)
  have hI3 : ∀ h, h ∈ mX_l → lx_A s (w h) := fun h hh => hFc _ (hI2 h hh)
  clear hP hD hPc hDc hFc hvm hw hz1 hk1 hP1 hI2 ht
  subst hw0
  generalize H1 = H at hP2 hS ⊢
  have hP := hP2
  have hD := hD2
  clear hP2 hD2
  refine W.widen (k := 693) (n := 1334207) (Nat.le_of_ble_eq_true rfl) (Nat.le_of_ble_eq_true rfl) ?_
  refine lv_astore_n (lv' := [(2, .ref (w 0)), (1, .ref (u 0)), (0, .ref b)]) hx hb dy_15 rfl hl (by decide) rfl (fun ls hl => ?_)
  refine lv_iconst (v := 1) hx hb dy_16 (by decide) ?_
  refine ow_newa (N' := 1) (a0 := (1, .inr (.inl (fun _ => 0)))) (ty := .long) hx hb (hts (.arrayClass .long) zw_86) rfl hK hP hD hS hA 2 rfl (fun _ h => h) (fun _ => rfl) (by decide) (by decide) (by decide) (Nat.le_of_ble_eq_true rfl) (Nat.le_of_ble_eq_true rfl) dy_17 (fun qo H hP hD hS => ?_)
  refine W.widen (k := 694) (n := 1334208) (Nat.le_of_ble_eq_true rfl) (Nat.le_of_ble_eq_true rfl) ?_
  refine lv_astore_n (lv' := [(3, .ref qo), (2, .ref (w 0)), (1, .ref (u 0)), (0, .ref b)]) hx hb dy_19 rfl hl (by decide) rfl (fun ls hl => ?_)
  refine lv_iconst (v := 0) hx hb dy_20 (by decide) ?_
  refine lv_istore (lv' := [(4, .int 0), (3, .ref qo), (2, .ref (w 0)), (1, .ref (u 0)), (0, .ref b)]) hx hb dy_21 hl (by decide) rfl (fun ls hl => ?_)
  obtain ⟨hPr, hPq⟩ := pv_split hP
  obtain ⟨hDr, hcr⟩ := dv_split hD
  obtain ⟨u1, hus, huo, hMc⟩ := al_extL (X := xt11_19) (X1 := xo11) (h := 52001) (a := qo) cko_L (fun _ => rfl) hPr hDr hS
  have hin := nk_inj (nk_sub cko_c) hMc.2.1
  have hcross : ∀ g, g ∈ cX_l → ∀ h, h ∈ mX_l → u1 g ≠ w h := by
    intro g hg h hh
    have h1 : (w h, tw_cell mX q5 w (usZ m2 blM) h) ∈ tw mX q5 w (usZ m2 blM) := List.mem_map.mpr ⟨h, hh, rfl⟩
    rcases List.mem_append.mp (show g ∈ xl11 ++ [52001] from nk_sub cko_c g hg) with h2 | h2
    · have h3 : g ∈ xt11_19.1 := h2
      rw [hus g h3]
      exact hcr (u g, nw_cell xt11_19 q u (Zc z8 z0 z1) g) (List.mem_append_left _ (List.mem_map.mpr ⟨g, h3, rfl⟩)) _ h1
    · rw [List.mem_singleton] at h2
      rw [h2, huo]
      exact hcr _ (List.mem_append_right _ (List.mem_singleton.mpr rfl)) _ h1
  have hM : lx_M (dC, dI) q q5 s vl0 u1 w (Zc z8 z0 z1) (usZ m2 blM) H _ := ⟨nk_toU cko_c hMc.1, hPq, ⟨hin.1, hin.2⟩, ⟨hI1, hI3⟩, hcross, hS⟩
  have hu1 : u1 0 = u 0 := hus 0 (by decide +kernel)
  rw [← hu1, ← huo] at hl
  refine lx_loop (C0 := 694) (Z0 := 1334208) (vl0 := vl0) hx hb hml hown hts hX hbl in_wZ in_wLL in_wC in_wM hG hL (by decide) (by decide) (fun H locs ls cells slots hS hc hs => ?_) (L / 6) 0 (vl0, Zc z8 z0 z1, usZ m2 blM) SE u1 H _ ls 694 1334208 (by omega) (by omega) hrun hM (Nat.le_refl _) cko_p (Nat.le_add_right_of_le (Nat.le_refl _)) (Nat.le_add_right_of_le (Nat.le_refl _)) (lv_sub hl [4, 3, 2, 1, 0] rfl)
  refine lv_iconst (v := 1) hx hb dy_1716 (by decide) ?_
  refine va_forget (fun q hq => hS.2.2 q hq) ?_
  refine W.widen (k := 601024) (n := 7293033) hc hs ?_
  exact lw_ret hx hb hr hlocks dy_1717
set_option maxHeartbeats 4000000 in
theorem lw_walkP (hpure : PureP) (l : Launch) (hlt : l.stackTraces = false) (b : Addr) (xs : List Int32) : MetFree l x (headSpec (Jvm.Cond.code x code maxLocals ret :: tables_1) room_1) (lw_P b xs) (fun _ _ _ _ _ => True) lw_Q := by
  refine MetFree.of_bodyS (code := code) (maxLocals := maxLocals) (ret := ret) (by decide) ?_ ?_
  · intro args s m h hn
    obtain ⟨meth, c, h1, h2, h3, h4, h5, h6, -, -⟩ := Cond.code_spec hn (atoms_spec (ws := Jvm.Cond.code x code maxLocals ret :: tables_1) h _ List.mem_cons_self)
    exact ⟨meth, c, h1, h2, h3, h4, h5, h6⟩
  · intro p e s m args below meth c s₁ B hml0 hP _
    obtain ⟨rfl, hx, hbd, hgv⟩ := hP
    obtain ⟨scr, harrAt, hlist, hof, hsmall⟩ := hx
    obtain ⟨hcb, hkn, -, -⟩ := State.arrayAt?_spec harrAt
    have hown : s.vm.findClass R_law = some m.cls := findClass_of_methodNamed B.named
    have hts0 : ∀ c ∈ (Jvm.Cond.code x code maxLocals ret :: tables_1), c.before #[Value.ref b] s = true := atoms_spec (ws := Jvm.Cond.code x code maxLocals ret :: tables_1) B.pre
    have hts : ∀ w ∈ lw_tbl, w.before #[Value.ref b] s = true := k2_hts_sels lw_privs (fun w hw => hts0 w (List.mem_cons_of_mem _ hw)) lw_privs_ok
    have hml : c.maxLocals = 8 := B.maxLocals_eq (hts0 _ List.mem_cons_self)
    have X₀ : Stand p l e room_1 s m #[Value.ref b] below meth c s₁ [] 0 0 := Stand.of_body B
    have hh0 : s₁.heap = s.heap := by rw [B.state]; rfl
    have hsz : scr.slots.size = xs.length := by rw [← Array.length_toList, hlist, List.length_map]
    have hval : ∀ j : Nat, j < xs.length → scr.slots[j]? = some (.int (xs.getD j 0)) := fun j hj => by
      rw [← Array.getElem?_toList, hlist]
      simp [hj]
    have hbl : b < s.heap.size := (Array.getElem?_eq_some_iff.mp hcb).1
    have hX : va_X b xs.length (fun j => xs.getD j 0) s s.heap := ⟨scr, hcb, hof, hkn, hsz, hval⟩
    have K : W p l e room_1 s m #[Value.ref b] below meth c s₁.heap [] 0 0 (lw_Z below #[Value.ref b] s) (entryFrame m ([Value.ref b] : List Value).toArray 8) := by
      rw [hh0]
      exact whole_pure hpure l hlt hbd ⟨B.exec, B.bytes, B.returns, hml, hown, hts, hX, hbl, B.notSynchronized, hgv⟩
    obtain ⟨t, a1, o, b1, b2, b3⟩ := K s₁ rfl X₀
    exact ⟨t, o, a1, b1, b2, b3⟩
theorem lw_pre_spec {args : Array Value} {s : State} (h : (Jvm.Cond.and given_1 narrow_1).before args s = true) (hr : rest_1_c.before args s = true) : ∃ (b : Addr) (xs : List Int32), lw_P b xs args s := by
  have hs := flat_of_before _ h
  have hq := flat_of_before _ hr
  have hc : (Cond.count 1).before args s = true := hs _ (by decide +kernel)
  have harr : (Cond.arrayOf (.arg 0) .int).before args s = true := hs _ (by decide +kernel)
  have hle : (Cond.le (.length (.arg 0)) (.int 3072)).before args s = true := hs _ (by decide +kernel)
  have hlen : (Cond.isInt (.length (.arg 0))).before args s = true := hq _ (by decide +kernel)
  have hall : (Cond.all (.arg 0) (.isInt (.elem (.arg 0) (.index 0)))).before args s = true := hq _ (by decide +kernel)
  obtain ⟨b, xs, hb, hx⟩ := State.ints_of_pre rfl harr hlen hall
  have hsm : xs.length < 2 ^ 31 := hx.choose_spec.2.2.2
  have hev : (Term.length (.arg 0)).eval args s none [] s = some (.int xs.length.toInt32) := hx.length_eval hb
  have hv := Cond.le_ints hev (show (Term.int 3072).eval args s none [] s = some (.int 3072) from rfl)
  have hd : xs.length.toInt32 ≤ 3072 := by
    simpa [Cond.before, Cond.holds, hv] using hle
  have hN : xs.length ≤ 3072 := (Int32.ofNat_le_ofNat hsm (by decide)).mp (show Int32.ofNat xs.length ≤ Int32.ofNat 3072 from hd)
  exact ⟨b, xs, Cond.one_arg hc (show args[0]? = some (.ref b) from hb), hx, hN, h⟩
theorem lw_comesP (hpure : PureP) (l : Launch) (hlt : l.stackTraces = false) : Comes l x (Jvm.Cond.code x code maxLocals ret :: tables_1) room_1 (fun tb e args s => Calls_1 tb e args s ∧ rest_1 tb e args s ∧ Pre_1 tb e args s)
    (fun _ _ args s o t => lw_Q args s o t) := by
  intro p e ha hc hk s m args below hf hfit hheap happ hpre
  obtain ⟨b, xs, hP⟩ := lw_pre_spec hpre.2.2 hpre.2.1
  obtain ⟨k, o, h1, h2, h3, hQ⟩ := lw_walkP hpure l hlt b xs p e ha hc hk s m args below hf ((Spec.applies_iff_loose hf).mp happ).1 hP trivial
  exact ⟨k, o, h1, h2, h3, hQ⟩
theorem lw_frame {s t : State} {o : Outcome} {args : Array Value} (h : Framed s o t [] 601024 7293033) :
    Framed s o t (fieldLocs frame_1_writes args s ++ arrayLocs frame_1_arrays args s ++ staticLocs frame_1_statics s) 601024 7293033 := h
theorem lw_limbP (hpure : PureP) (L : Cond) (hL : ∀ (args : Array Value) (s t : State), L.after args s (.returned (some (.int 1))) t = true) :
    ArmFor flags0 classFile x code maxLocals ret World_1 tables_1 room_1 Calls_1 rest_1 Pre_1
      (fun tb e a s o t => postC L tb e a s o t ∧ Framed s o t (fieldLocs frame_1_writes a s ++ arrayLocs frame_1_arrays a s ++ staticLocs frame_1_statics s) 601024 7293033) := by
  intro l hfl _ _ p e ha hc hk s m args below hf hfit hheap happ hpre
  have hlt : l.stackTraces = false := by
    show (!l.flags.contains noTraceFlag) = false
    rw [hfl]
    decide +kernel
  obtain ⟨k, o, h1, h2, h3, rfl, hF⟩ := lw_comesP hpure l hlt p e ha hc hk s m args below hf hfit hheap happ hpre
  exact ⟨k, _, h1, h2, h3, hL args s _, lw_frame hF⟩
theorem vc_of_pure (hpure : PureP) : Claimed_1_1 ∧ Claimed_1_2 := ⟨lw_limbP hpure limb_1_1 (fun args s t => by simp [limb_1_1, Cond.after, Cond.holds, Cond.value]), lw_limbP hpure limb_1_2 (fun args s t => Cond.after_iff.mpr (by
  first | (rw [show limb_1_2 = Cond.eq .result (.int 1) from rfl, Cond.eq_ints (x := 1) (y := 1) rfl rfl]; simp; done) | (simp [limb_1_2, Cond.value, Term.eval]; done)))⟩
