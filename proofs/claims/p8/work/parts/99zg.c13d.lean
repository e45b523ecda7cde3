def ku_chk (X : ow_Tb) (bl : List Nat) : Bool := X.1.all (fun g => !bl.contains (g / 1000) && (X.2 g).2.2.all (fun p => decide (p.1 ≠ 0) || !bl.contains (p.2 / 1000)))
/-- what isn't in the table may be what it will -/
theorem ku_usZ {X : ow_Tb} {q : Nat → ClassId} {u : Nat → Nat} {z : ow_MS} {bl : List Nat} (h : ku_chk X bl = true) : nw X q u (usZ z bl) = nw X q u z := by
  unfold nw
  apply List.map_congr_left
  intro g hg
  have h1 := List.all_eq_true.mp h g hg
  rw [Bool.and_eq_true, Bool.not_eq_true'] at h1
  have e1 : (usZ z bl).2.1 g = z.2.1 g := if_neg (by rw [h1.1]; decide)
  have e2 : (usZ z bl).2.2 g = z.2.2 g := if_neg (by rw [h1.1]; decide)
  have e3 : (X.2 g).2.2.map (nv_val u (usZ z bl)) = (X.2 g).2.2.map (nv_val u z) := by
    apply List.map_congr_left
    intro p hp
    have h2 := List.all_eq_true.mp h1.2 p hp
    rw [Bool.or_eq_true, decide_eq_true_eq, Bool.not_eq_true'] at h2
    unfold nv_val
    by_cases h0 : p.1 = 0
    · rw [if_pos h0, if_pos h0]
      rcases h2 with h2 | h2
      · exact absurd h0 h2
      · have e4 : (usZ z bl).1 p.2 = z.1 p.2 := if_neg (by rw [h2]; decide)
        rw [e4]
    · rw [if_neg h0, if_neg h0]
  unfold nw_cell
  rw [e1, e2, e3]
def nul13 : List Value := [.int 0, .null, .int 0, .null, .null, .null, .null, .null, .null, .null, .int 0, .null, .null, .null, .null, .null, .null, .null, .null, .null, .null, .int 0, .null, .int 0, .null, .int 0, .null, .null, .int 0, .int 0, .null, .null, .null, .null, .null, .int 0, .null, .null, .null, .null, .null, .null, .null, .null, .null, .int 0, .null, .null, .null, .null, .null, .null, .null, .null, .null, .null, .null, .int 0, .null, .null, .null, .null, .null, .null, .null, .null, .int 0, .null, .null, .int 0, .int 0, .null, .null, .null, .null, .null, .null, .null, .int 0, .null, .null, .null, .null, .null, .null, .null, .null, .int 0, .null, .null, .null, .null, .int 0, .null, .null, .null, .null, .null, .null, .null, .null, .null, .null, .null, .null, .null, .null, .null, .int 0, .null, .int 0, .int 0, .int 0, .null, .null, .int 0, .null, .null, .null, .null]
theorem ck13_t : nk_in xt13_98 mX_a 5 = true := by decide +kernel
theorem ck13_v : nk_out xv13_0 mX_a 5 = true := by decide +kernel
theorem ck13_z : ku_chk xv13_0 blM = true := by decide +kernel
theorem ck13_e : nk_in xv13_15 mX 5 = true := by decide +kernel
theorem ck13_n : xt13_0.1.Nodup := ndB_nd (by decide +kernel)
theorem ck13_m : xv13_0.1.Nodup := ndB_nd (by decide +kernel)
set_option maxHeartbeats 4000000 in
set_option maxRecDepth 100000 in
theorem kh_X13_init (l : Launch) (dC : Nat → ClassId) (dI : Nat → Nat → Nat) (q : ow_Q5) (h0 sz K : Nat) (z1 z2 : ow_MS) (h1 : qe_X13_makeSimples_a K Z13 = some z1) (h2 : qe_X13_makePermutations_a K z1 = some z2) : Met l yX13_init wi13 RI13 (va_Pc [.ref h0] (fun U => U.heap.size = sz ∧ va_P (dC, dI) vwCl [(h0, .inr (16, nul13))] U.heap ∧ va_K (dC, dI) vwCl (tw_T q RX12) U ∧ va_D (fun _ => True) [(h0, .inr (16, nul13))] ∧ ow_NM U ∧ va_Nw (.methodLinkNest RX13 113 yX12_init "KnotHouseModel") U ∧ va_AO RX12 U)) (va_Qv (fun _ : (Nat → Nat) => True) (fun u t => u 0 = h0 ∧ va_P (dC, dI) vwCl (tw mX q u (usZ z2 blM)) t.heap ∧ tw_inj mX u ∧ ∀ h, h ∈ mX.1 → va_A [(h0, .inr (16, nul13))] sz (u h)) (va_A [(h0, .inr (16, nul13))] sz)) 329 1155585 (va_A [(h0, .inr (16, nul13))] sz) := by
  refine Met.ofW (cc := cX13_init) (maxL := 2) (ret := none) (by decide) rfl ?_
  intro p e s m args below meth c s₁ B hml hv
  obtain ⟨rfl, hsz, hP, hK, hD0, hNM, hN_X13_113, hAO⟩ := hv
  have hx := B.exec
  have hb := B.bytes
  have hr := B.returns
  have hts := atoms_spec (ws := wi13) B.pre
  have hown : s.vm.findClass RX13 = some m.cls := findClass_of_methodNamed B.named
  have hlocks := B.notSynchronized
  have hin : meth.name = "<init>" := (name_of_methodNamed B.named B.method).1
  subst hsz
  have hD := hD0.self (sz := s.heap.size)
  generalize hAe : va_A [(h0, .inr (16, nul13))] s.heap.size = A at hD ⊢
  have hA : ∀ q : Nat, s.heap.size ≤ q → A q := fun q h => by rw [← hAe]; exact Or.inr h
  have hS : va_S A s.heap s.heap [] := va_S.rf
  have hl := lv_entry ([.ref h0]) (n := 2) (Nat.le_of_ble_eq_true rfl)
  rw [lg_entry_eq]
  generalize (lg_sl ([.ref h0]) ++ List.replicate (2 - (lg_sl ([.ref h0])).length) Slot.unset).toArray = ls at hl ⊢
  have hM : al_M (dC, dI) vwCl xt13_0 (q5f q) A s.heap (fun _ => h0) Z13 s.heap [] := ⟨hP, hD, hS, ck13_n⟩
  have hl : lv_has ls 2 [(0, .ref ((fun _ : Nat => h0) 0))] := hl
  have hu0 : (fun _ : Nat => h0) 0 = h0 := rfl
  generalize (fun _ : Nat => h0) = u at hM hl hu0
  clear hP hD hS hD0
  refine ow_named (fun QQ hQQ => ?_)
  generalize ([.ref h0] : List Value).toArray = args at hts hQQ ⊢
  refine lv_aload_n hx hb diX13_0 rfl (lv_at hl 0 rfl) ?_
  refine W.objInit hx hb hown (hts (.methodLink RX13 101 objectInit) mi13_0) (hts (.instanceMethod objectInit) mi13_1) (hts (.code objectInit ⟨#[0xb1]⟩ 1 none) mi13_2) rfl (by rw [hml]; exact hl.1) rfl diX13_1 (Nat.le_of_ble_eq_true rfl) (Nat.le_of_ble_eq_true rfl) ?_
  refine W.eq (g2 := F0 m 4 ls []) rfl ?_
  suffices key : ∀ (H : Heap) (locs : List Loc), al_M (dC, dI) vwCl xt13_0 (q5f q) A s.heap u Z13 H locs → W p l e RI13 s m args below meth c H locs 0 0 QQ (F0 m 4 ls []) from key _ _ hM
  clear hM
  intro H locs hM
  refine hc13_0 hx hb hml hown hts hin hA hK hN_X13_113 hAO u H locs ls hu0 hM hl (fun u H locs ls hu0 hM hl => ?_)
  refine hc13_1 hx hb hml hown hts hin hA hK hN_X13_113 hAO u H locs ls hu0 hM hl (fun u H locs ls hu0 hM hl => ?_)
  refine hc13_2 hx hb hml hown hts hin hA hK hN_X13_113 hAO u H locs ls hu0 hM hl (fun u H locs ls hu0 hM hl => ?_)
  refine hc13_3 hx hb hml hown hts hin hA hK hN_X13_113 hAO u H locs ls hu0 hM hl (fun u H locs ls hu0 hM hl => ?_)
  refine hc13_4 hx hb hml hown hts hin hA hK hN_X13_113 hAO u H locs ls hu0 hM hl (fun u H locs ls hu0 hM hl => ?_)
  refine hc13_5 hx hb hml hown hts hin hA hK hN_X13_113 hAO u H locs ls hu0 hM hl (fun u H locs ls hu0 hM hl => ?_)
  refine hc13_6 hx hb hml hown hts hin hA hK hN_X13_113 hAO u H locs ls hu0 hM hl (fun u H locs ls hu0 hM hl => ?_)
  have hU : tw_inj mX_a u := (nk_inj (nk_sub ck13_t) hM.2.1).1
  have hAu : ∀ h, h ∈ mX_a.1 → A (u h) := (nk_inj (nk_sub ck13_t) hM.2.1).2
  have hPt : va_P (dC, dI) vwCl (tw mX_a q u Z13) H := nk_toT ck13_t hM.1
  refine lv_aload_n hx hb diX13_857 rfl (lv_at hl 0 rfl) ?_
  refine va_callv (va_runV (As := []) (rest := []) ⟨hx, hb, hml, hown, hts⟩ (km_X13_makeSimples_a l (dC, dI) q u hU K Z13 z1 h1) (cwV 0 hts gi13_S rfl rfl rfl cd_X13_makeSimples_a ⟨(Nat.le_of_ble_eq_true rfl), (Nat.le_of_ble_eq_true rfl)⟩) (mw_preV_a hK hNM (H0 := H) (locs := []) ⟨hPt, va_S.rf⟩ mo_0_a rfl) rfl rfl hl.1 rfl (lv_room (Nat.le_of_ble_eq_true rfl)) diX13_858 ⟨(Nat.le_of_ble_eq_true rfl), (Nat.le_of_ble_eq_true rfl)⟩) hM.2.2.1 (fun q9 _ h9 => by obtain ⟨g9, h8, rfl⟩ := h9; exact hAu g9 h8) (fun q9 h9 => by obtain ⟨g9, h8, rfl⟩ := h9; exact hAu g9 h8) (fun _ t H1 locs ht _ _ hB _ _ hS => ?_)
  rw [ht] at hB
  generalize H1 = H at hB hS ⊢
  have hPt : va_P (dC, dI) vwCl (tw mX_a q u z1) H := hB
  refine lv_aload_n hx hb diX13_861 rfl (lv_at hl 0 rfl) ?_
  refine va_callv (va_runV (As := []) (rest := []) ⟨hx, hb, hml, hown, hts⟩ (km_X13_makePermutations_a l (dC, dI) q u hU K z1 z2 h2) (cwV 0 hts gi13_P rfl rfl rfl cd_X13_makePermutations_a ⟨(Nat.le_of_ble_eq_true rfl), (Nat.le_of_ble_eq_true rfl)⟩) (mw_preV_a hK hNM (H0 := H) (locs := []) ⟨hPt, va_S.rf⟩ mo_0_a rfl) rfl rfl hl.1 rfl (lv_room (Nat.le_of_ble_eq_true rfl)) diX13_862 ⟨(Nat.le_of_ble_eq_true rfl), (Nat.le_of_ble_eq_true rfl)⟩) hS (fun q9 _ h9 => by obtain ⟨g9, h8, rfl⟩ := h9; exact hAu g9 h8) (fun q9 h9 => by obtain ⟨g9, h8, rfl⟩ := h9; exact hAu g9 h8) (fun _ t H1 locs ht _ _ hB _ _ hS => ?_)
  rw [ht] at hB
  generalize H1 = H at hB hS ⊢
  have hM : al_M (dC, dI) vwCl xv13_0 (q5f q) A s.heap u (usZ z2 blM) H locs := ⟨by rw [ku_usZ ck13_z]; exact nk_ofT ck13_v hB, nk_Dz hM.2.1, hS, ck13_m⟩
  clear hB hPt hU hAu hS
  refine lv_iconst (v := 0) hx hb diX13_865 (by decide) ?_
  refine lv_istore_n (lv' := [(1, .int 0), (0, .ref (u 0))]) hx hb diX13_866 rfl hl (by decide) rfl (fun ls hl => ?_)
  refine W.widen (k := 134) (n := 1146945) (Nat.le_of_ble_eq_true rfl) (Nat.le_of_ble_eq_true rfl) ?_
  refine hv13_0 hx hb hml hown hts hA hK hN_X13_113 hAO u H locs ls hu0 hM hl (fun u H locs ls hu0 hM hl => ?_)
  refine hv13_1 hx hb hml hown hts hA hK hN_X13_113 hAO u H locs ls hu0 hM hl (fun u H locs ls hu0 hM hl => ?_)
  refine hv13_2 hx hb hml hown hts hA hK hN_X13_113 hAO u H locs ls hu0 hM hl (fun u H locs ls hu0 hM hl => ?_)
  refine hv13_3 hx hb hml hown hts hA hK hN_X13_113 hAO u H locs ls hu0 hM hl (fun u H locs ls hu0 hM hl => ?_)
  refine hv13_4 hx hb hml hown hts hA hK hN_X13_113 hAO u H locs ls hu0 hM hl (fun u H locs ls hu0 hM hl => ?_)
  refine hv13_5 hx hb hml hown hts hA hK hN_X13_113 hAO u H locs ls hu0 hM hl (fun u H locs ls hu0 hM hl => ?_)
  refine hv13_6 hx hb hml hown hts hA hK hN_X13_113 hAO u H locs ls hu0 hM hl (fun u H locs ls hu0 hM hl => ?_)
  refine hv13_7 hx hb hml hown hts hA hK hN_X13_113 hAO u H locs ls hu0 hM hl (fun u H locs ls hu0 hM hl => ?_)
  refine hv13_8 hx hb hml hown hts hA hK hN_X13_113 hAO u H locs ls hu0 hM hl (fun u H locs ls hu0 hM hl => ?_)
  refine hv13_9 hx hb hml hown hts hA hK hN_X13_113 hAO u H locs ls hu0 hM hl (fun u H locs ls hu0 hM hl => ?_)
  refine hv13_10 hx hb hml hown hts hA hK hN_X13_113 hAO u H locs ls hu0 hM hl (fun u H locs ls hu0 hM hl => ?_)
  refine hv13_11 hx hb hml hown hts hA hK hN_X13_113 hAO u H locs ls hu0 hM hl (fun u H locs ls hu0 hM hl => ?_)
  refine hv13_12 hx hb hml hown hts hA hK hN_X13_113 hAO u H locs ls hu0 hM hl (fun u H locs ls hu0 hM hl => ?_)
  refine hv13_13 hx hb hml hown hts hA hK hN_X13_113 hAO u H locs ls hu0 hM hl (fun u H locs ls hu0 hM hl => ?_)
  refine hv13_14 hx hb hml hown hts hA hK hN_X13_113 hAO u H locs ls hu0 hM hl (fun u H locs ls hu0 hM hl => ?_)
  refine lv_iload_n hx hb diX13_867 rfl (lv_at hl 0 rfl) ?_
  refine lv_aload_n hx hb diX13_868 rfl (lv_at hl 1 rfl) ?_
  refine va_get (D := (dC, dI)) (ci := 16) (v := .ref (u 40)) (C := RX13) (T := TX13) (N := 120) hx hb hts wi13_13 hown hK hM.1 0 (al_he (X := xv13_15) (o := 0) rfl rfl rfl) rfl 39 (by decide) (hts (.fieldLink RX13 179 "KnotHouseModel" "level" "[LKnotHouseModel$Net;") mi13_43) (fun _ h9 => h9) rfl diX13_869 ?_
  refine va_alen (v := 15) hx hb hK hM.1 67 4 (al_he4' (X := xv13_15) (r := 40) rfl rfl) rfl rfl diX13_872 ?_
  refine lv_icmp_ge (tgt := 895) hx hb diX13_873 (by decide) (fun _ => ?_) (fun c9 => absurd (by decide) c9)
  rw [hQQ]
  exact W.vret hx hb hr (fun t ht hW => ⟨⟨u, rfl, trivial, hu0, by rw [ht]; exact nk_toT ck13_e hM.1, (nk_inj (nk_sub ck13_e) hM.2.1).1, (nk_inj (nk_sub ck13_e) hM.2.1).2⟩, hM.2.2.1.F ht⟩) hM.2.2.1.2.2 diX13_895
