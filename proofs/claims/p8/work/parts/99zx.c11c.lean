def nul11 : List Value := [.null, .null, .null, .null, .null, .null, .null, .null, .null, .null, .null, .null, .null, .null, .null, .null, .null, .null, .null]
theorem ck11_n : xt11_0.1.Nodup := ndB_nd (by decide +kernel)
set_option maxHeartbeats 4000000 in
set_option maxRecDepth 100000 in
theorem kh_X11_init (l : Launch) (dC : Nat → ClassId) (dI : Nat → Nat → Nat) (q : Nat → ClassId) (h0 sz K : Nat) (z8 z0 zA z1 : ow_MS) (hq8 : ce_X8i_b8 K 24000 zeroS = some z8) (hq0 : ce_X0i_b0 K 41000 53001 zeroS = some z0) (hqA : ce_X1i_b1 K 43000 zeroS = some zA) (hqB : ce_X1j_b1b K 43000 53001 (usZ zA [53]) = some z1) : Met l yX11_init wi11 RI11 (va_Pc [.ref h0] (fun U => U.heap.size = sz ∧ va_P (dC, dI) vwCl [(h0, .inr (14, nul11))] U.heap ∧ va_K (dC, dI) vwCl (uw_T q RX7) U ∧ va_D (fun _ => True) [(h0, .inr (14, nul11))] ∧ va_Nw (.methodLinkNest RX11 26 yX7_init "KnotHouse") U ∧ va_Nw (.methodLinkNest RX11 36 yX4_init "KnotHouse") U ∧ va_Nw (.methodLinkNest RX11 43 yX2_init "KnotHouse") U ∧ va_Nw (.methodLinkNest RX11 50 yX9_init "KnotHouse") U ∧ va_Nw (.methodLinkNest RX11 57 yX6_init "KnotHouse") U ∧ va_Nw (.methodLinkNest RX11 96 yX5_init "KnotHouse") U ∧ va_Nw (.methodLinkNest RX11 106 yX10_init "KnotHouse") U ∧ va_Nw (.methodLinkNest RX6 28 yX7_init "KnotHouse") U ∧ va_Nw (.methodLinkNest RX6 38 yX4_init "KnotHouse") U ∧ va_Nw (.methodLinkNest RX6 48 yX2_init "KnotHouse") U ∧ va_Nw (.methodLinkNest RX8 44 yX7_init "KnotHouse") U ∧ va_Nw (.methodLinkNest RX1 11 yX7_init "KnotHouse") U ∧ va_Nw (.methodLinkNest RX10 20 yX5_init "KnotHouse") U ∧ ow_AO .int U ∧ ow_AO .long U ∧ va_AO RX7 U)) (va_Qv (fun _ : (Nat → Nat) => True) (fun u t => u 0 = h0 ∧ va_P (dC, dI) vwCl (nw xt11_19 q u (Zc z8 z0 z1)) t.heap ∧ va_D (va_A [(h0, .inr (14, nul11))] sz) (nw xt11_19 q u (Zc z8 z0 z1))) (va_A [(h0, .inr (14, nul11))] sz)) 362 178483 (va_A [(h0, .inr (14, nul11))] sz) := by
  refine Met.ofW (cc := cX11_init) (maxL := 1) (ret := none) (by decide) rfl ?_
  intro p e s m args below meth c s₁ B hml hv
  obtain ⟨rfl, hsz, hP, hK, hD0, hN_X11_26, hN_X11_36, hN_X11_43, hN_X11_50, hN_X11_57, hN_X11_96, hN_X11_106, hN_X6_28, hN_X6_38, hN_X6_48, hN_X8_44, hN_X1_11, hN_X10_20, hOI, hOJ, hAO⟩ := hv
  have hx := B.exec
  have hb := B.bytes
  have hr := B.returns
  have htsW := atoms_spec (ws := wi11) B.pre
  have hown : s.vm.findClass RX11 = some m.cls := findClass_of_methodNamed B.named
  have hlocks := B.notSynchronized
  have hin : meth.name = "<init>" := (name_of_methodNamed B.named B.method).1
  subst hsz
  have hD := hD0.self (sz := s.heap.size)
  generalize hAe : va_A [(h0, .inr (14, nul11))] s.heap.size = A at hD ⊢
  have hA : ∀ q : Nat, s.heap.size ≤ q → A q := fun q h => by rw [← hAe]; exact Or.inr h
  have hS : va_S A s.heap s.heap [] := va_S.rf
  have hl := lv_entry ([.ref h0]) (n := 1) (Nat.le_of_ble_eq_true rfl)
  rw [lg_entry_eq]
  generalize (lg_sl ([.ref h0]) ++ List.replicate (1 - (lg_sl ([.ref h0])).length) Slot.unset).toArray = ls at hl ⊢
  have hM : al_M (dC, dI) vwCl xt11_0 q A s.heap (fun _ => h0) (Zc z8 z0 z1) s.heap [] := ⟨hP, hD, hS, ck11_n⟩
  have hl : lv_has ls 1 [(0, .ref ((fun _ : Nat => h0) 0))] := hl
  have hu0 : (fun _ : Nat => h0) 0 = h0 := rfl
  generalize (fun _ : Nat => h0) = u at hM hl hu0
  clear hP hD hS hD0
  refine ow_named (fun QQ hQQ => ?_)
  generalize ([.ref h0] : List Value).toArray = args at htsW hQQ ⊢
  have hts : ∀ w ∈ wsX11_init, w.before args s = true := fun w h => htsW w (List.mem_append_left _ h)
  refine lv_aload_n hx hb dX11_init_0 rfl (lv_at hl 0 rfl) ?_
  refine W.objInit hx hb hown (hts (.methodLink RX11 1 objectInit) (by decide +kernel)) (hts (.instanceMethod objectInit) (by decide +kernel)) (hts (.code objectInit ⟨#[0xb1]⟩ 1 none) (by decide +kernel)) rfl (by rw [hml]; exact hl.1) rfl dX11_init_1 (Nat.le_of_ble_eq_true rfl) (Nat.le_of_ble_eq_true rfl) ?_
  refine W.eq (g2 := F0 m 4 ls []) rfl ?_
  suffices key : ∀ (H : Heap) (locs : List Loc), al_M (dC, dI) vwCl xt11_0 q A s.heap u (Zc z8 z0 z1) H locs → W p l e RI11 s m args below meth c H locs 0 0 QQ (F0 m 4 ls []) from key _ _ hM
  clear hM
  intro H locs hM
  have hts := htsW
  refine hc11_0 hx hb hml hown hts hin hA hK hN_X11_26 hN_X11_36 hN_X11_43 hN_X11_50 hN_X11_57 hN_X11_96 hN_X11_106 hN_X6_28 hN_X6_38 hN_X6_48 hN_X8_44 hN_X1_11 hN_X10_20 hOI hOJ hAO hq8 hq0 hqA hqB u H locs ls hu0 hM hl (fun u H locs ls hu0 hM hl => ?_)
  refine hc11_1 hx hb hml hown hts hin hA hK hN_X11_26 hN_X11_36 hN_X11_43 hN_X11_50 hN_X11_57 hN_X11_96 hN_X11_106 hN_X6_28 hN_X6_38 hN_X6_48 hN_X8_44 hN_X1_11 hN_X10_20 hOI hOJ hAO hq8 hq0 hqA hqB u H locs ls hu0 hM hl (fun u H locs ls hu0 hM hl => ?_)
  refine hc11_2 hx hb hml hown hts hin hA hK hN_X11_26 hN_X11_36 hN_X11_43 hN_X11_50 hN_X11_57 hN_X11_96 hN_X11_106 hN_X6_28 hN_X6_38 hN_X6_48 hN_X8_44 hN_X1_11 hN_X10_20 hOI hOJ hAO hq8 hq0 hqA hqB u H locs ls hu0 hM hl (fun u H locs ls hu0 hM hl => ?_)
  refine hc11_3 hx hb hml hown hts hin hA hK hN_X11_26 hN_X11_36 hN_X11_43 hN_X11_50 hN_X11_57 hN_X11_96 hN_X11_106 hN_X6_28 hN_X6_38 hN_X6_48 hN_X8_44 hN_X1_11 hN_X10_20 hOI hOJ hAO hq8 hq0 hqA hqB u H locs ls hu0 hM hl (fun u H locs ls hu0 hM hl => ?_)
  refine hc11_4 hx hb hml hown hts hin hA hK hN_X11_26 hN_X11_36 hN_X11_43 hN_X11_50 hN_X11_57 hN_X11_96 hN_X11_106 hN_X6_28 hN_X6_38 hN_X6_48 hN_X8_44 hN_X1_11 hN_X10_20 hOI hOJ hAO hq8 hq0 hqA hqB u H locs ls hu0 hM hl (fun u H locs ls hu0 hM hl => ?_)
  rw [hQQ]
  exact W.vret hx hb hr (fun t ht hW => ⟨⟨u, rfl, trivial, hu0, by rw [ht]; exact hM.1, hM.2.1⟩, hM.2.2.1.F ht⟩) hM.2.2.1.2.2 dX11_init_212
