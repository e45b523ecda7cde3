def wi1 : List Cond := wsX1_init ++ (wC_b1 ++ wC_b1b)
def nul1 : List Value := [.null, .null, .null, .null, .null, .null, .null, .null, .null, .int 0, .null, .null, .null, .null, .null, .null, .int 0, .null, .int 0, .int 0]
theorem ck1_n : xt1_0.1.Nodup := ndB_nd (by decide +kernel)
theorem ck1_m : cT1.1.Nodup := ndB_nd (by decide +kernel)
theorem ck1_t : nk_in xt1_16 cT1 7 = true := by decide +kernel
theorem ck1_o : nk_out cT1 cT1 7 = true := by decide +kernel
theorem ck1_z : ku_chk cT1 [53] = true := by decide +kernel
theorem ck1b_t : nk_in cT1b cT1b 7 = true := by decide +kernel
theorem ck1_p : nk_out cT1 cT1b 7 = true := by decide +kernel
theorem ck1_s : nk_in cT1b cT1 7 = true := by decide +kernel
set_option maxHeartbeats 4000000 in
set_option maxRecDepth 100000 in
theorem kh_X1_init (l : Launch) (dC : Nat → ClassId) (dI : Nat → Nat → Nat) (q : Nat → ClassId) (h0 sz K : Nat) (zA zB : ow_MS) (hqA : ce_X1i_b1 K 43000 zeroS = some zA) (hqB : ce_X1j_b1b K 43000 53001 (usZ zA [53]) = some zB) : Met l yX1_init wi1 RI1 (va_Pc [.ref h0] (fun U => U.heap.size = sz ∧ va_P (dC, dI) vwCl [(h0, .inr (4, nul1))] U.heap ∧ va_K (dC, dI) vwCl (uw_T q RX7) U ∧ va_D (fun _ => True) [(h0, .inr (4, nul1))] ∧ va_Nw (.methodLinkNest RX1 11 yX7_init "KnotHouse") U ∧ ow_AO .int U)) (va_Qv (fun _ : (Nat → Nat) => True) (fun u t => u 43000 = h0 ∧ va_P (dC, dI) vwCl (nw cT1 q u zB) t.heap ∧ va_D (va_A [(h0, .inr (4, nul1))] sz) (nw cT1 q u zB)) (va_A [(h0, .inr (4, nul1))] sz)) 35 51832 (va_A [(h0, .inr (4, nul1))] sz) := by
  refine Met.ofW (cc := cX1_init) (maxL := 3) (ret := none) (by decide) rfl ?_
  intro p e s m args below meth c s₁ B hml hv
  obtain ⟨rfl, hsz, hP, hK, hD0, hN_X1_11, hOI⟩ := hv
  have hx := B.exec
  have hb := B.bytes
  have hr := B.returns
  have htsW := atoms_spec (ws := wi1) B.pre
  have hown : s.vm.findClass RX1 = some m.cls := findClass_of_methodNamed B.named
  have hlocks := B.notSynchronized
  have hin : meth.name = "<init>" := (name_of_methodNamed B.named B.method).1
  subst hsz
  have hD := hD0.self (sz := s.heap.size)
  generalize hAe : va_A [(h0, .inr (4, nul1))] s.heap.size = A at hD ⊢
  have hA : ∀ q : Nat, s.heap.size ≤ q → A q := fun q h => by rw [← hAe]; exact Or.inr h
  have hS : va_S A s.heap s.heap [] := va_S.rf
  have hl := lv_entry ([.ref h0]) (n := 3) (Nat.le_of_ble_eq_true rfl)
  rw [lg_entry_eq]
  generalize (lg_sl ([.ref h0]) ++ List.replicate (3 - (lg_sl ([.ref h0])).length) Slot.unset).toArray = ls at hl ⊢
  have hM : al_M (dC, dI) vwCl xt1_0 q A s.heap (fun _ => h0) zeroS s.heap [] := ⟨hP, hD, hS, ck1_n⟩
  have hl : lv_has ls 3 [(0, .ref ((fun _ : Nat => h0) 43000))] := hl
  have hu0 : (fun _ : Nat => h0) 43000 = h0 := rfl
  generalize (fun _ : Nat => h0) = u at hM hl hu0
  clear hP hD hS hD0
  refine ow_named (fun QQ hQQ => ?_)
  generalize ([.ref h0] : List Value).toArray = args at htsW hQQ ⊢
  have hts : ∀ w ∈ wsX1_init, w.before args s = true := fun w h => htsW w (List.mem_append_left _ h)
  refine lv_aload_n hx hb dX1_init_0 rfl (lv_at hl 0 rfl) ?_
  refine W.objInit hx hb hown (hts (.methodLink RX1 3 objectInit) (by decide +kernel)) (hts (.instanceMethod objectInit) (by decide +kernel)) (hts (.code objectInit ⟨#[0xb1]⟩ 1 none) (by decide +kernel)) rfl (by rw [hml]; exact hl.1) rfl dX1_init_1 (Nat.le_of_ble_eq_true rfl) (Nat.le_of_ble_eq_true rfl) ?_
  refine W.eq (g2 := F0 m 4 ls []) rfl ?_
  suffices key : ∀ (H : Heap) (locs : List Loc), al_M (dC, dI) vwCl xt1_0 q A s.heap u zeroS H locs → W p l e RI1 s m args below meth c H locs 0 0 QQ (F0 m 4 ls []) from key _ _ hM
  clear hM
  intro H locs hM
  refine hc1_0 hx hb hml hown hts hin hA hK hN_X1_11 hOI u H locs ls hu0 hM hl (fun u H locs ls hu0 hM hl => ?_)
  refine hc1_1 hx hb hml hown hts hin hA hK hN_X1_11 hOI u H locs ls hu0 hM hl (fun u H locs ls hu0 hM hl => ?_)
  have hU : uw_inj cT1 u A := ⟨(nk_inj (nk_sub ck1_t) hM.2.1).1, (nk_inj (nk_sub ck1_t) hM.2.1).2⟩
  have htsB : ∀ w ∈ (Cond.code yX1_init cX1_init 3 none) :: wC_b1, w.before args s = true := fun w h => (List.mem_cons.mp h).elim (fun h9 => by rw [h9]; exact hts _ List.mem_cons_self) (fun h9 => htsW w (List.mem_append_right _ (List.mem_append_left _ h9)))
  refine kb_X1i_b1 hU hx hb hml hown htsB hK K 43000 (show 43000 ∈ ci_X1_b1 by decide) zeroS zA hqA _ _ ls ⟨nk_toU ck1_t hM.1, hM.2.2.1⟩ (lv_sub hl [0] rfl) (fun H1 locs1 ls hMu hl => ?_)
  have hM : al_M (dC, dI) vwCl cT1 q A s.heap u (usZ zA [53]) H1 locs1 := ⟨by rw [ku_usZ ck1_z]; exact nk_ofU ck1_o hMu.1, nk_Dz hM.2.1, hMu.2, ck1_m⟩
  clear hMu hU
  refine lv_bipush (v := 11) hx hb dX1_init_219 (by decide) ?_
  refine ow_newa (D := (dC, dI)) (N' := 11) (a0 := (11, .inl (fun _ => 0))) (ty := .int) hx hb (hts (.arrayClass .int) (by decide +kernel)) rfl hK hM.1 hM.2.1 hM.2.2.1 hA 0 rfl (fun _ h => h) (fun _ => rfl) (by decide) (by decide) (by decide) (Nat.le_of_ble_eq_true rfl) (Nat.le_of_ble_eq_true rfl) dX1_init_221 (fun q26 H hP hD hS => ?_)
  refine W.widen (k := 35) (n := 51832) (Nat.le_of_ble_eq_true rfl) (Nat.le_of_ble_eq_true rfl) ?_
  obtain ⟨u, hus, huh, hM⟩ := al_extL (X := cT1) (X1 := cT1b) (h := 53001) (a := q26) ck1_L (fun _ => rfl) hP hD hS
  have hu : u 43000 = _ := hus 43000 (by decide +kernel)
  rw [← hu] at hl
  have hu0 := hu.trans hu0
  clear hu hus hP hD hS
  subst huh
  refine lv_astore_n (lv' := [(1, .ref (u 53001)), (0, .ref (u 43000))]) hx hb dX1_init_223 rfl hl (by decide) rfl (fun ls hl => ?_)
  have hUb : uw_inj cT1b u A := ⟨(nk_inj (nk_sub ck1b_t) hM.2.1).1, (nk_inj (nk_sub ck1b_t) hM.2.1).2⟩
  have htsC : ∀ w ∈ (Cond.code yX1_init cX1_init 3 none) :: wC_b1b, w.before args s = true := fun w h => (List.mem_cons.mp h).elim (fun h9 => by rw [h9]; exact hts _ List.mem_cons_self) (fun h9 => htsW w (List.mem_append_right _ (List.mem_append_right _ h9)))
  refine kb_X1j_b1b hUb hx hb hml hown htsC hK K 43000 53001 (show 43000 ∈ ci_X1_b1b by decide) (show tw_in cT1b 53001 0 from ⟨by decide +kernel, by decide +kernel⟩) (usZ zA [53]) zB hqB _ _ ls ⟨nk_toU ck1b_t hM.1, hM.2.2.1⟩ (lv_sub hl [1, 0] rfl) (fun H1 locs1 ls hMu hl => ?_)
  rw [hQQ]
  exact W.vret hx hb hr (fun t ht hW => ⟨⟨u, rfl, trivial, hu0, by rw [ht]; exact nk_ofU ck1_p hMu.1, nk_mkD ck1_m (nk_inj (nk_sub ck1_s) hM.2.1).1 (nk_inj (nk_sub ck1_s) hM.2.1).2⟩, hMu.2.F ht⟩) hMu.2.2.2 dX1_init_263
