def wi8 : List Cond := wsX8_init ++ wC_b8
def nul8 : List Value := [.null, .null, .null, .null, .null, .null, .null, .null, .int 0]
theorem ck8_n : xt8_0.1.Nodup := ndB_nd (by decide +kernel)
theorem ck8_t : nk_in xv8_13 cT8 7 = true := by decide +kernel
theorem ck8_o : nk_out cT8 cT8 7 = true := by decide +kernel
set_option maxHeartbeats 4000000 in
set_option maxRecDepth 100000 in
theorem kh_X8_init (l : Launch) (dC : Nat → ClassId) (dI : Nat → Nat → Nat) (q : Nat → ClassId) (h0 sz K : Nat) (z8 : ow_MS) (hq : ce_X8i_b8 K 24000 zeroS = some z8) : Met l yX8_init wi8 RI8 (va_Pc [.ref h0] (fun U => U.heap.size = sz ∧ va_P (dC, dI) vwCl [(h0, .inr (11, nul8))] U.heap ∧ va_K (dC, dI) vwCl (uw_T q RX7) U ∧ va_D (fun _ => True) [(h0, .inr (11, nul8))] ∧ va_Nw (.methodLinkNest RX8 44 yX7_init "KnotHouse") U ∧ va_AO RX7 U ∧ ow_AO .int U)) (va_Qv (fun _ : (Nat → Nat) => True) (fun u t => u 24000 = h0 ∧ va_P (dC, dI) vwCl (nw cT8 q u z8) t.heap ∧ va_D (va_A [(h0, .inr (11, nul8))] sz) (nw cT8 q u z8)) (va_A [(h0, .inr (11, nul8))] sz)) 147 8684 (va_A [(h0, .inr (11, nul8))] sz) := by
  refine Met.ofW (cc := cX8_init) (maxL := 3) (ret := none) (by decide) rfl ?_
  intro p e s m args below meth c s₁ B hml hv
  obtain ⟨rfl, hsz, hP, hK, hD0, hN_X8_44, hAO, hOI⟩ := hv
  have hx := B.exec
  have hb := B.bytes
  have hr := B.returns
  have htsW := atoms_spec (ws := wi8) B.pre
  have hown : s.vm.findClass RX8 = some m.cls := findClass_of_methodNamed B.named
  have hlocks := B.notSynchronized
  have hin : meth.name = "<init>" := (name_of_methodNamed B.named B.method).1
  subst hsz
  have hD := hD0.self (sz := s.heap.size)
  generalize hAe : va_A [(h0, .inr (11, nul8))] s.heap.size = A at hD ⊢
  have hA : ∀ q : Nat, s.heap.size ≤ q → A q := fun q h => by rw [← hAe]; exact Or.inr h
  have hS : va_S A s.heap s.heap [] := va_S.rf
  have hl := lv_entry ([.ref h0]) (n := 3) (Nat.le_of_ble_eq_true rfl)
  rw [lg_entry_eq]
  generalize (lg_sl ([.ref h0]) ++ List.replicate (3 - (lg_sl ([.ref h0])).length) Slot.unset).toArray = ls at hl ⊢
  have hM : al_M (dC, dI) vwCl xt8_0 q A s.heap (fun _ => h0) zeroS s.heap [] := ⟨hP, hD, hS, ck8_n⟩
  have hl : lv_has ls 3 [(0, .ref ((fun _ : Nat => h0) 24000))] := hl
  have hu0 : (fun _ : Nat => h0) 24000 = h0 := rfl
  generalize (fun _ : Nat => h0) = u at hM hl hu0
  clear hP hD hS hD0
  refine ow_named (fun QQ hQQ => ?_)
  generalize ([.ref h0] : List Value).toArray = args at htsW hQQ ⊢
  have hts : ∀ w ∈ wsX8_init, w.before args s = true := fun w h => htsW w (List.mem_append_left _ h)
  refine lv_aload_n hx hb dX8_init_0 rfl (lv_at hl 0 rfl) ?_
  refine W.objInit hx hb hown (hts (.methodLink RX8 3 objectInit) (by decide +kernel)) (hts (.instanceMethod objectInit) (by decide +kernel)) (hts (.code objectInit ⟨#[0xb1]⟩ 1 none) (by decide +kernel)) rfl (by rw [hml]; exact hl.1) rfl dX8_init_1 (Nat.le_of_ble_eq_true rfl) (Nat.le_of_ble_eq_true rfl) ?_
  refine W.eq (g2 := F0 m 4 ls []) rfl ?_
  suffices key : ∀ (H : Heap) (locs : List Loc), al_M (dC, dI) vwCl xt8_0 q A s.heap u zeroS H locs → W p l e RI8 s m args below meth c H locs 0 0 QQ (F0 m 4 ls []) from key _ _ hM
  clear hM
  intro H locs hM
  refine hc8_0 hx hb hml hown hts hin hA hK hN_X8_44 hAO hOI u H locs ls hu0 hM hl (fun u H locs ls hu0 hM hl => ?_)
  have hM : al_M (dC, dI) vwCl xv8_0 q A s.heap u zeroS H locs := hM
  refine lv_iconst (v := 0) hx hb dX8_init_82 (by decide) ?_
  refine lv_istore_n (lv' := [(1, .int 0), (0, .ref (u 24000))]) hx hb dX8_init_83 rfl hl (by decide) rfl (fun ls hl => ?_)
  refine W.widen (k := 43) (n := 6513) (Nat.le_of_ble_eq_true rfl) (Nat.le_of_ble_eq_true rfl) ?_
  refine hv8_0 hx hb hml hown hts hA hK hN_X8_44 hAO hOI u H locs ls hu0 hM hl (fun u H locs ls hu0 hM hl => ?_)
  refine hv8_1 hx hb hml hown hts hA hK hN_X8_44 hAO hOI u H locs ls hu0 hM hl (fun u H locs ls hu0 hM hl => ?_)
  refine hv8_2 hx hb hml hown hts hA hK hN_X8_44 hAO hOI u H locs ls hu0 hM hl (fun u H locs ls hu0 hM hl => ?_)
  refine hv8_3 hx hb hml hown hts hA hK hN_X8_44 hAO hOI u H locs ls hu0 hM hl (fun u H locs ls hu0 hM hl => ?_)
  refine hv8_4 hx hb hml hown hts hA hK hN_X8_44 hAO hOI u H locs ls hu0 hM hl (fun u H locs ls hu0 hM hl => ?_)
  refine hv8_5 hx hb hml hown hts hA hK hN_X8_44 hAO hOI u H locs ls hu0 hM hl (fun u H locs ls hu0 hM hl => ?_)
  refine hv8_6 hx hb hml hown hts hA hK hN_X8_44 hAO hOI u H locs ls hu0 hM hl (fun u H locs ls hu0 hM hl => ?_)
  refine hv8_7 hx hb hml hown hts hA hK hN_X8_44 hAO hOI u H locs ls hu0 hM hl (fun u H locs ls hu0 hM hl => ?_)
  refine hv8_8 hx hb hml hown hts hA hK hN_X8_44 hAO hOI u H locs ls hu0 hM hl (fun u H locs ls hu0 hM hl => ?_)
  refine hv8_9 hx hb hml hown hts hA hK hN_X8_44 hAO hOI u H locs ls hu0 hM hl (fun u H locs ls hu0 hM hl => ?_)
  refine hv8_10 hx hb hml hown hts hA hK hN_X8_44 hAO hOI u H locs ls hu0 hM hl (fun u H locs ls hu0 hM hl => ?_)
  refine hv8_11 hx hb hml hown hts hA hK hN_X8_44 hAO hOI u H locs ls hu0 hM hl (fun u H locs ls hu0 hM hl => ?_)
  refine hv8_12 hx hb hml hown hts hA hK hN_X8_44 hAO hOI u H locs ls hu0 hM hl (fun u H locs ls hu0 hM hl => ?_)
  refine lv_iload_n hx hb dX8_init_84 rfl (lv_at hl 0 rfl) ?_
  refine lv_aload_n hx hb dX8_init_85 rfl (lv_at hl 1 rfl) ?_
  refine va_get (D := (dC, dI)) (ci := 11) (v := .ref (u 24002)) (C := RX8) (T := TX8) (N := 9) hx hb hts (by decide +kernel) hown hK hM.1 0 (al_he (X := xv8_13) (o := 24000) rfl rfl rfl) rfl 1 (by decide) (hts (.fieldLink RX8 22 "KnotHouse$Polynomials" "levels" "[LKnotHouse$Net;") (by decide +kernel)) (fun _ h9 => h9) rfl dX8_init_86 ?_
  refine va_alen (v := 13) hx hb hK hM.1 6 4 (al_he4' (X := xv8_13) (r := 24002) rfl rfl) rfl rfl dX8_init_89 ?_
  refine lv_icmp_ge (tgt := 112) hx hb dX8_init_90 (by decide) (fun _ => ?_) (fun c9 => absurd (by decide) c9)
  have hU : uw_inj cT8 u A := ⟨(nk_inj (nk_sub ck8_t) hM.2.1).1, (nk_inj (nk_sub ck8_t) hM.2.1).2⟩
  have htsB : ∀ w ∈ (Cond.code yX8_init cX8_init 3 none) :: wC_b8, w.before args s = true := fun w h => (List.mem_cons.mp h).elim (fun h9 => by rw [h9]; exact hts _ List.mem_cons_self) (fun h9 => htsW w (List.mem_append_right _ h9))
  refine kb_X8i_b8 hU hx hb hml hown htsB hK K 24000 (show 24000 ∈ ci_X8_b8 by decide) zeroS z8 hq _ _ ls ⟨nk_toU ck8_t hM.1, hM.2.2.1⟩ (lv_sub hl [1] rfl) (fun H1 locs1 ls hMu hl => ?_)
  rw [hQQ]
  exact W.vret hx hb hr (fun t ht hW => ⟨⟨u, rfl, trivial, hu0, by rw [ht]; exact nk_ofU ck8_o hMu.1, nk_Dz hM.2.1⟩, hMu.2.F ht⟩) hMu.2.2.2 dX8_init_179
