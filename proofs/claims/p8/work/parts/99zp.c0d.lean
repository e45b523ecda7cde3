def wi0 : List Cond := wsX0_init ++ wC_b0
def nul0 : List Value := [.null, .int 0, .null, .null, .int 0, .null, .null, .null, .null, .int 0, .null, .null, .null, .null, .null, .int 0]
theorem ck0_n : xt0_0.1.Nodup := ndB_nd (by decide +kernel)
theorem ck0_t : nk_in cT0 cT0 7 = true := by decide +kernel
theorem ck0_o : nk_out cT0n cT0 7 = true := by decide +kernel
theorem ck0_s : nk_in cT0 cT0n 7 = true := by decide +kernel
theorem ck0_d : cT0n.1.Nodup := ndB_nd (by decide +kernel)
set_option maxHeartbeats 4000000 in
set_option maxRecDepth 100000 in
theorem kh_X0_init (l : Launch) (dC : Nat → ClassId) (dI : Nat → Nat → Nat) (q : Nat → ClassId) (h0 sz K : Nat) (z0 : ow_MS) (hq : ce_X0i_b0 K 41000 53001 zeroS = some z0) : Met l yX0_init wi0 RI0 (va_Pc [.ref h0] (fun U => U.heap.size = sz ∧ va_P (dC, dI) vwCl [(h0, .inr (3, nul0))] U.heap ∧ va_K (dC, dI) vwCl (uw_T q RX7) U ∧ va_D (fun _ => True) [(h0, .inr (3, nul0))] ∧ ow_AO .long U)) (va_Qv (fun _ : (Nat → Nat) => True) (fun u t => u 41000 = h0 ∧ va_P (dC, dI) vwCl (nw cT0n q u z0) t.heap ∧ va_D (va_A [(h0, .inr (3, nul0))] sz) (nw cT0n q u z0)) (va_A [(h0, .inr (3, nul0))] sz)) 25 1116 (va_A [(h0, .inr (3, nul0))] sz) := by
  refine Met.ofW (cc := cX0_init) (maxL := 7) (ret := none) (by decide) rfl ?_
  intro p e s m args below meth c s₁ B hml hv
  obtain ⟨rfl, hsz, hP, hK, hD0, hOJ⟩ := hv
  have hx := B.exec
  have hb := B.bytes
  have hr := B.returns
  have htsW := atoms_spec (ws := wi0) B.pre
  have hown : s.vm.findClass RX0 = some m.cls := findClass_of_methodNamed B.named
  have hlocks := B.notSynchronized
  have hin : meth.name = "<init>" := (name_of_methodNamed B.named B.method).1
  subst hsz
  have hD := hD0.self (sz := s.heap.size)
  generalize hAe : va_A [(h0, .inr (3, nul0))] s.heap.size = A at hD ⊢
  have hA : ∀ q : Nat, s.heap.size ≤ q → A q := fun q h => by rw [← hAe]; exact Or.inr h
  have hS : va_S A s.heap s.heap [] := va_S.rf
  have hl := lv_entry ([.ref h0]) (n := 7) (Nat.le_of_ble_eq_true rfl)
  rw [lg_entry_eq]
  generalize (lg_sl ([.ref h0]) ++ List.replicate (7 - (lg_sl ([.ref h0])).length) Slot.unset).toArray = ls at hl ⊢
  have hM : al_M (dC, dI) vwCl xt0_0 q A s.heap (fun _ => h0) zeroS s.heap [] := ⟨hP, hD, hS, ck0_n⟩
  have hl : lv_has ls 7 [(0, .ref ((fun _ : Nat => h0) 41000))] := hl
  have hu0 : (fun _ : Nat => h0) 41000 = h0 := rfl
  generalize (fun _ : Nat => h0) = u at hM hl hu0
  clear hP hD hS hD0
  refine ow_named (fun QQ hQQ => ?_)
  generalize ([.ref h0] : List Value).toArray = args at htsW hQQ ⊢
  have hts : ∀ w ∈ wsX0_init, w.before args s = true := fun w h => htsW w (List.mem_append_left _ h)
  refine lv_aload_n hx hb dX0_init_0 rfl (lv_at hl 0 rfl) ?_
  refine W.objInit hx hb hown (hts (.methodLink RX0 3 objectInit) (by decide +kernel)) (hts (.instanceMethod objectInit) (by decide +kernel)) (hts (.code objectInit ⟨#[0xb1]⟩ 1 none) (by decide +kernel)) rfl (by rw [hml]; exact hl.1) rfl dX0_init_1 (Nat.le_of_ble_eq_true rfl) (Nat.le_of_ble_eq_true rfl) ?_
  refine W.eq (g2 := F0 m 4 ls []) rfl ?_
  suffices key : ∀ (H : Heap) (locs : List Loc), al_M (dC, dI) vwCl xt0_0 q A s.heap u zeroS H locs → W p l e RI0 s m args below meth c H locs 0 0 QQ (F0 m 4 ls []) from key _ _ hM
  clear hM
  intro H locs hM
  refine hc0_0 hx hb hml hown hts hin hA hK hOJ u H locs ls hu0 hM hl (fun u H locs ls hu0 hM hl => ?_)
  refine lv_bipush (v := 24) hx hb dX0_init_105 (by decide) ?_
  refine ow_newa (D := (dC, dI)) (N' := 24) (a0 := (24, .inl (fun _ => 0))) (ty := .int) hx hb (hts (.arrayClass .int) (by decide +kernel)) rfl hK hM.1 hM.2.1 hM.2.2.1 hA 0 rfl (fun _ h => h) (fun _ => rfl) (by decide) (by decide) (by decide) (Nat.le_of_ble_eq_true rfl) (Nat.le_of_ble_eq_true rfl) dX0_init_107 (fun q14 H hP hD hS => ?_)
  refine W.widen (k := 25) (n := 1116) (Nat.le_of_ble_eq_true rfl) (Nat.le_of_ble_eq_true rfl) ?_
  obtain ⟨u, hus, huh, hM⟩ := al_extL (X := xt0_12) (X1 := cT0) (h := 53001) (a := q14) ck0_L (fun _ => rfl) hP hD hS
  have hu : u 41000 = _ := hus 41000 (by decide +kernel)
  rw [← hu] at hl
  have hu0 := hu.trans hu0
  clear hu hus hP hD hS
  subst huh
  refine lv_astore_n (lv' := [(1, .ref (u 53001)), (0, .ref (u 41000))]) hx hb dX0_init_109 rfl hl (by decide) rfl (fun ls hl => ?_)
  have hU : uw_inj cT0 u A := ⟨(nk_inj (nk_sub ck0_t) hM.2.1).1, (nk_inj (nk_sub ck0_t) hM.2.1).2⟩
  have htsB : ∀ w ∈ (Cond.code yX0_init cX0_init 7 none) :: wC_b0, w.before args s = true := fun w h => (List.mem_cons.mp h).elim (fun h9 => by rw [h9]; exact hts _ List.mem_cons_self) (fun h9 => htsW w (List.mem_append_right _ h9))
  refine kb_X0i_b0 hU hx hb hml hown htsB hK K 41000 53001 (show 41000 ∈ ci_X0_b0 by decide) (show tw_in cT0 53001 0 from ⟨by decide +kernel, by decide +kernel⟩) zeroS z0 hq _ _ ls ⟨nk_toU ck0_t hM.1, hM.2.2.1⟩ (lv_sub hl [1, 0] rfl) (fun H1 locs1 ls hMu hl => ?_)
  rw [hQQ]
  exact W.vret hx hb hr (fun t ht hW => ⟨⟨u, rfl, trivial, hu0, by rw [ht]; exact nk_ofU ck0_o hMu.1, nk_mkD ck0_d (nk_inj (nk_sub ck0_s) hM.2.1).1 (nk_inj (nk_sub ck0_s) hM.2.1).2⟩, hMu.2.F ht⟩) hMu.2.2.2 dX0_init_230
