theorem dL_feed_0 : decode cL_feed 0 = .ok (.aload 6, 2) := by decide +kernel
theorem dL_feed_2 : decode cL_feed 2 = .ok (.iconst 0, 1) := by decide +kernel
theorem dL_feed_3 : decode cL_feed 3 = .ok (.aload_n 0, 1) := by decide +kernel
theorem dL_feed_4 : decode cL_feed 4 = .ok (.iload_n 1, 1) := by decide +kernel
theorem dL_feed_5 : decode cL_feed 5 = .ok (.iload_n 2, 1) := by decide +kernel
theorem dL_feed_6 : decode cL_feed 6 = .ok (.iload_n 3, 1) := by decide +kernel
theorem dL_feed_7 : decode cL_feed 7 = .ok (.iload 4, 2) := by decide +kernel
theorem dL_feed_9 : decode cL_feed 9 = .ok (.iload 5, 2) := by decide +kernel
theorem dL_feed_11 : decode cL_feed 11 = .ok (.invokevirtual 7, 3) := by decide +kernel
theorem dL_feed_14 : decode cL_feed 14 = .ok (.i2l, 1) := by decide +kernel
theorem dL_feed_15 : decode cL_feed 15 = .ok (.lastore, 1) := by decide +kernel
theorem dL_feed_16 : decode cL_feed 16 = .ok (.goto 7, 3) := by decide +kernel
theorem dL_feed_23 : decode cL_feed 23 = .ok (.iconst 0, 1) := by decide +kernel
theorem dL_feed_24 : decode cL_feed 24 = .ok (.ireturn, 1) := by decide +kernel
def wf_L_feed : List Cond := .codeWith yL_feed cL_feed 8 (some .int) [(0, 16, 19, 13)] :: wsV RL 7 RX11 yX11_feed wf_feed
theorem gf_L_feed : GoodIn wf_L_feed (wsV RL 7 RX11 yX11_feed wf_feed) := goodIn_sub (fun _ h => List.mem_cons_of_mem _ h) (by decide +kernel)
set_option maxHeartbeats 4000000 in
set_option maxRecDepth 100000 in
theorem kf_L_feed (l : Launch) (dC : Nat → ClassId) (dI : Nat → Nat → Nat) (cI cB cJ cZ : ClassId) (h0 qo sz : Nat) (u : Nat → Nat) (f : Nat → Int64) (p0 p1 p2 p3 p4 : Int32) : vx_Met l yL_feed wf_L_feed (({ frames := 2, cells := 0, slots := 0, locals := 47 } : Room)) (va_Pc [.ref h0, .int p0, .int p1, .int p2, .int p3, .int p4, .ref qo] (fun U => U.heap.size = sz ∧ va_P (dC, dI) vwCl [(h0, .inr (14, [.ref (u 0), .ref (u 1), .ref (u 2), .ref (u 3), .ref (u 4), .ref (u 5), .ref (u 6), .ref (u 7), .ref (u 8), .ref (u 9), .ref (u 10), .ref (u 11), .ref (u 12), .ref (u 13), .ref (u 14), .ref (u 15), .ref (u 16), .ref (u 17), .ref (u 18)])), ((u 7), .inr (12, [.int (nI 0), .ref (u 63), .ref (u 64), .ref (u 65), .int 0, .int 0])), ((u 63), .inl (cB, 400, .inl (fun _ => 0))), (qo, .inl (cJ, 1, .inr (.inl f)))] U.heap ∧ va_K (dC, dI) vwCl [(cI, .int), (cB, .byte), (cJ, .long), (cZ, .boolean)] U ∧ va_D (fun _ => True) [(h0, .inr (14, [.ref (u 0), .ref (u 1), .ref (u 2), .ref (u 3), .ref (u 4), .ref (u 5), .ref (u 6), .ref (u 7), .ref (u 8), .ref (u 9), .ref (u 10), .ref (u 11), .ref (u 12), .ref (u 13), .ref (u 14), .ref (u 15), .ref (u 16), .ref (u 17), .ref (u 18)])), ((u 7), .inr (12, [.int (nI 0), .ref (u 63), .ref (u 64), .ref (u 65), .int 0, .int 0])), ((u 63), .inl (cB, 400, .inl (fun _ => 0))), (qo, .inl (cJ, 1, .inr (.inl f)))])) (va_Qi (fun r (g : Nat → Int64) => r = 0 ∧ g 0 = 20) (fun g t => va_P (dC, dI) vwCl [(qo, .inl (cJ, 1, .inr (.inl g)))] t.heap ∧ va_D (va_A [(h0, .inr (14, [.ref (u 0), .ref (u 1), .ref (u 2), .ref (u 3), .ref (u 4), .ref (u 5), .ref (u 6), .ref (u 7), .ref (u 8), .ref (u 9), .ref (u 10), .ref (u 11), .ref (u 12), .ref (u 13), .ref (u 14), .ref (u 15), .ref (u 16), .ref (u 17), .ref (u 18)])), ((u 7), .inr (12, [.int (nI 0), .ref (u 63), .ref (u 64), .ref (u 65), .int 0, .int 0])), ((u 63), .inl (cB, 400, .inl (fun _ => 0))), (qo, .inl (cJ, 1, .inr (.inl f)))] sz) [(qo, .inl (cJ, 1, .inr (.inl g)))]) (va_A [(h0, .inr (14, [.ref (u 0), .ref (u 1), .ref (u 2), .ref (u 3), .ref (u 4), .ref (u 5), .ref (u 6), .ref (u 7), .ref (u 8), .ref (u 9), .ref (u 10), .ref (u 11), .ref (u 12), .ref (u 13), .ref (u 14), .ref (u 15), .ref (u 16), .ref (u 17), .ref (u 18)])), ((u 7), .inr (12, [.int (nI 0), .ref (u 63), .ref (u 64), .ref (u 65), .int 0, .int 0])), ((u 63), .inl (cB, 400, .inl (fun _ => 0))), (qo, .inl (cJ, 1, .inr (.inl f)))] sz)) (vx_X (fun _ : Unit => False) (fun _ _ _ => True) (va_A [(h0, .inr (14, [.ref (u 0), .ref (u 1), .ref (u 2), .ref (u 3), .ref (u 4), .ref (u 5), .ref (u 6), .ref (u 7), .ref (u 8), .ref (u 9), .ref (u 10), .ref (u 11), .ref (u 12), .ref (u 13), .ref (u 14), .ref (u 15), .ref (u 16), .ref (u 17), .ref (u 18)])), ((u 7), .inr (12, [.int (nI 0), .ref (u 63), .ref (u 64), .ref (u 65), .int 0, .int 0])), ((u 63), .inl (cB, 400, .inl (fun _ => 0))), (qo, .inl (cJ, 1, .inr (.inl f)))] sz)) 0 0 (va_A [(h0, .inr (14, [.ref (u 0), .ref (u 1), .ref (u 2), .ref (u 3), .ref (u 4), .ref (u 5), .ref (u 6), .ref (u 7), .ref (u 8), .ref (u 9), .ref (u 10), .ref (u 11), .ref (u 12), .ref (u 13), .ref (u 14), .ref (u 15), .ref (u 16), .ref (u 17), .ref (u 18)])), ((u 7), .inr (12, [.int (nI 0), .ref (u 63), .ref (u 64), .ref (u 65), .int 0, .int 0])), ((u 63), .inl (cB, 400, .inl (fun _ => 0))), (qo, .inl (cJ, 1, .inr (.inl f)))] sz) := by
  refine vx_ofWH (cc := cL_feed) (maxL := 8) (ret := (some .int)) (hh := [(0, 16, 19, 13)]) (by decide) rfl ?_
  intro p e s m args below meth c s₁ B hml hv
  obtain ⟨rfl, hsz, hP, hK, hD0⟩ := hv
  have hx := B.exec
  have hb := B.bytes
  have hr := B.returns
  have hts := atoms_spec (ws := wf_L_feed) B.pre
  have htab := vx_table (x := yL_feed) B (hts _ List.mem_cons_self)
  have hown : s.vm.findClass RL = some m.cls := findClass_of_methodNamed B.named
  have hlocks := B.notSynchronized
  subst hsz
  have hD := hD0.self (sz := s.heap.size)
  generalize hAe : va_A [(h0, .inr (14, [.ref (u 0), .ref (u 1), .ref (u 2), .ref (u 3), .ref (u 4), .ref (u 5), .ref (u 6), .ref (u 7), .ref (u 8), .ref (u 9), .ref (u 10), .ref (u 11), .ref (u 12), .ref (u 13), .ref (u 14), .ref (u 15), .ref (u 16), .ref (u 17), .ref (u 18)])), ((u 7), .inr (12, [.int (nI 0), .ref (u 63), .ref (u 64), .ref (u 65), .int 0, .int 0])), ((u 63), .inl (cB, 400, .inl (fun _ => 0))), (qo, .inl (cJ, 1, .inr (.inl f)))] s.heap.size = A at hD ⊢
  have hA : ∀ q : Nat, s.heap.size ≤ q → A q := fun q h => by rw [← hAe]; exact Or.inr h
  have hS : va_S A s.heap s.heap [] := va_S.rf
  have hP : va_P (dC, dI) vwCl [(h0, .inr (14, [.ref (u 0), .ref (u 1), .ref (u 2), .ref (u 3), .ref (u 4), .ref (u 5), .ref (u 6), .ref (u 7), .ref (u 8), .ref (u 9), .ref (u 10), .ref (u 11), .ref (u 12), .ref (u 13), .ref (u 14), .ref (u 15), .ref (u 16), .ref (u 17), .ref (u 18)])), ((u 7), .inr (12, [.int (nI 0), .ref (u 63), .ref (u 64), .ref (u 65), .int 0, .int 0])), ((u 63), .inl (cB, 400, .inl (fun _ => 0))), (qo, .inl (cJ, 1, .inr (.inl f)))] s.heap := hP
  have hl := lv_entry ([.ref h0, .int p0, .int p1, .int p2, .int p3, .int p4, .ref qo]) (n := 8) (Nat.le_of_ble_eq_true rfl)
  rw [lg_entry_eq]
  generalize (lg_sl ([.ref h0, .int p0, .int p1, .int p2, .int p3, .int p4, .ref qo]) ++ List.replicate (8 - (lg_sl ([.ref h0, .int p0, .int p1, .int p2, .int p3, .int p4, .ref qo])).length) Slot.unset).toArray = ls at hl ⊢
  have hl : lv_has ls 8 [(0, .ref h0), (1, .int p0), (2, .int p1), (3, .int p2), (4, .int p3), (5, .int p4), (6, .ref qo)] := hl
  refine ow_named (fun QQ hQQ => ?_)
  refine lv_aload hx hb dL_feed_0 (lv_at hl 6 rfl) ?_
  refine lv_iconst (v := 0) hx hb dL_feed_2 (by decide) ?_
  refine lv_aload_n hx hb dL_feed_3 rfl (lv_at hl 0 rfl) ?_
  refine lv_iload_n hx hb dL_feed_4 rfl (lv_at hl 1 rfl) ?_
  refine lv_iload_n hx hb dL_feed_5 rfl (lv_at hl 2 rfl) ?_
  refine lv_iload_n hx hb dL_feed_6 rfl (lv_at hl 3 rfl) ?_
  refine lv_iload hx hb dL_feed_7 (lv_at hl 4 rfl) ?_
  refine lv_iload hx hb dL_feed_9 (lv_at hl 5 rfl) ?_
  have hPc := hP.sub (ws' := [(h0, .inr (14, [.ref (u 0), .ref (u 1), .ref (u 2), .ref (u 3), .ref (u 4), .ref (u 5), .ref (u 6), .ref (u 7), .ref (u 8), .ref (u 9), .ref (u 10), .ref (u 11), .ref (u 12), .ref (u 13), .ref (u 14), .ref (u 15), .ref (u 16), .ref (u 17), .ref (u 18)])), ((u 7), .inr (12, [.int (nI 0), .ref (u 63), .ref (u 64), .ref (u 65), .int 0, .int 0])), ((u 63), .inl (cB, 400, .inl (fun _ => 0)))]) [0, 1, 2] rfl
  have hDc := hD.sub (ws' := [(h0, .inr (14, [.ref (u 0), .ref (u 1), .ref (u 2), .ref (u 3), .ref (u 4), .ref (u 5), .ref (u 6), .ref (u 7), .ref (u 8), .ref (u 9), .ref (u 10), .ref (u 11), .ref (u 12), .ref (u 13), .ref (u 14), .ref (u 15), .ref (u 16), .ref (u 17), .ref (u 18)])), ((u 7), .inr (12, [.int (nI 0), .ref (u 63), .ref (u 64), .ref (u 65), .int 0, .int 0])), ((u 63), .inl (cB, 400, .inl (fun _ => 0)))]) [0, 1, 2] (by decide) rfl
  have hFc := va_free (wc := [(h0, .inr (14, [.ref (u 0), .ref (u 1), .ref (u 2), .ref (u 3), .ref (u 4), .ref (u 5), .ref (u 6), .ref (u 7), .ref (u 8), .ref (u 9), .ref (u 10), .ref (u 11), .ref (u 12), .ref (u 13), .ref (u 14), .ref (u 15), .ref (u 16), .ref (u 17), .ref (u 18)])), ((u 7), .inr (12, [.int (nI 0), .ref (u 63), .ref (u 64), .ref (u 65), .int 0, .int 0])), ((u 63), .inl (cB, 400, .inl (fun _ => 0)))]) hD hS hA [0, 1, 2] rfl
  refine va_calli (va_runV (As := [.int p0, .int p1, .int p2, .int p3, .int p4]) (rest := [.int 0, .ref qo]) ⟨hx, hb, hml, hown, hts⟩ (kf_X11_feed l dC dI cI cB cJ cZ h0 s.heap.size u p0 p1 p2 p3 p4) (cwV 5 hts gf_L_feed rfl rfl rfl (by decide +kernel) ⟨(Nat.le_of_ble_eq_true rfl), (Nat.le_of_ble_eq_true rfl)⟩) ⟨fun a U g mk q => by obtain ⟨q0, q1, qP, qK, qD⟩ := q; exact ⟨q0, q1, qP, va_K.moved (u := U) (U := U.calling g mk a) (Vm.Alike.refl U.vm) qK, qD⟩, va_recv hK hPc (ci := 14) (q0 := 0) rfl rfl, fun U hU hW => ⟨rfl, by rw [hU], by rw [hU]; exact hPc, va_K.moved hW.alike hK, hDc.weaken (fun _ _ _ _ => trivial)⟩⟩ rfl rfl hl.1 rfl (lv_room (Nat.le_of_ble_eq_true rfl)) dL_feed_11 ⟨(Nat.le_of_ble_eq_true rfl), (Nat.le_of_ble_eq_true rfl)⟩) hS (fun q _ h => hFc q h) hFc (fun r9 u9 t H1 locs ht hvm hw hB hz1 hk1 hS => ?_)
  obtain rfl : r9 = 20 := hw
  obtain ⟨hP, hD⟩ := va_join (wr := [(qo, .inl (cJ, 1, .inr (.inl f)))]) (w1 := []) (H1 := H1) hP hD [0, 1, 2] [3] rfl rfl (by decide) (by decide) hk1 hFc (fun k9 x9 h9 => by simp at h9) ⟨fun i9 j9 p9 q9 h9 => by simp at h9, fun k9 x9 h9 => by simp at h9⟩
  generalize H1 = H at hP hS ⊢
  have hP : va_P (dC, dI) vwCl [(qo, .inl (cJ, 1, .inr (.inl f)))] H := hP
  have hD : va_D A [(qo, .inl (cJ, 1, .inr (.inl f)))] := hD
  refine lv_i2l hx hb dL_feed_14 rfl ?_
  refine va_last hx hb hK hP hD hS 0 2 rfl rfl (vp_in_nI (n := 0) (N := 1) (by decide) (by decide)) dL_feed_15 (fun H locs hP hD hS => ?_)
  have hP : va_P (dC, dI) vwCl [(qo, .inl (cJ, 1, .inr (.inl (vp_updL f (0 : Int32).toNatClampNeg ((20 : Int32).toInt64)))))] H := hP
  have hD : va_D A [(qo, .inl (cJ, 1, .inr (.inl (vp_updL f (0 : Int32).toNatClampNeg ((20 : Int32).toInt64)))))] := hD
  refine lv_goto (tgt := 23) hx hb dL_feed_16 (by decide) ?_
  refine lv_iconst (v := 0) hx hb dL_feed_23 (by decide) ?_
  rw [hQQ]
  exact vx_ret (W.iret (v := 0) hx hb hr (fun t ht hW => ⟨⟨0, _, rfl, ⟨rfl, pk_uLs⟩, by rw [ht]; exact hP, hD⟩, hS.F ht⟩) hS.2.2 dL_feed_24)
theorem dL_end_0 : decode cL_end 0 = .ok (.aload_n 0, 1) := by decide +kernel
theorem dL_end_1 : decode cL_end 1 = .ok (.iload_n 1, 1) := by decide +kernel
theorem dL_end_2 : decode cL_end 2 = .ok (.invokevirtual 15, 3) := by decide +kernel
theorem dL_end_5 : decode cL_end 5 = .ok (.goto 6, 3) := by decide +kernel
theorem dL_end_8 : decode cL_end 8 = .ok (.astore_n 2, 1) := by decide +kernel
theorem dL_end_9 : decode cL_end 9 = .ok (.iconst 1, 1) := by decide +kernel
theorem dL_end_10 : decode cL_end 10 = .ok (.ireturn, 1) := by decide +kernel
theorem dL_end_11 : decode cL_end 11 = .ok (.iconst 0, 1) := by decide +kernel
theorem dL_end_12 : decode cL_end 12 = .ok (.ireturn, 1) := by decide +kernel
def wf_L_end : List Cond := .codeWith yL_end cL_end 3 (some .int) [(0, 5, 8, 19)] :: (.classLink RL 19 "java/lang/IllegalArgumentException" :: wsV RL 15 RX11 yX11_end wf_end)
theorem gf_L_end : GoodIn wf_L_end (wsV RL 15 RX11 yX11_end wf_end) := goodIn_sub (fun _ h => List.mem_cons_of_mem _ (List.mem_cons_of_mem _ h)) (by decide +kernel)
set_option maxHeartbeats 4000000 in
set_option maxRecDepth 100000 in
theorem kf_L_end (l : Launch) (dC : Nat → ClassId) (dI : Nat → Nat → Nat) (cI cB cJ cZ : ClassId) (hlt : l.stackTraces = false) (h0 sa sz : Nat) (u : Nat → Nat) (k : Int32) : vx_Met l yL_end wf_L_end (({ frames := 7, cells := 1, slots := 6, locals := 111 } : Room)) (va_Pc [.ref h0, .int k] (fun U => U.heap.size = sz ∧ va_P (dC, dI) vwCl [(h0, .inr (14, [.ref (u 0), .ref (u 1), .ref (u 2), .ref (u 3), .ref (u 4), .ref (u 5), .ref (u 6), .ref (u 7), .ref (u 8), .ref (u 9), .ref (u 10), .ref (u 11), .ref (u 12), .ref (u 13), .ref (u 14), .ref (u 15), .ref (u 16), .ref (u 17), .ref (u 18)])), ((u 7), .inr (12, [.int 0, .ref (u 63), .ref (u 64), .ref (u 65), .int 0, .int 0]))] U.heap ∧ va_K (dC, dI) vwCl [(cI, .int), (cB, .byte), (cJ, .long), (cZ, .boolean)] U ∧ va_D (fun _ => True) [(h0, .inr (14, [.ref (u 0), .ref (u 1), .ref (u 2), .ref (u 3), .ref (u 4), .ref (u 5), .ref (u 6), .ref (u 7), .ref (u 8), .ref (u 9), .ref (u 10), .ref (u 11), .ref (u 12), .ref (u 13), .ref (u 14), .ref (u 15), .ref (u 16), .ref (u 17), .ref (u 18)])), ((u 7), .inr (12, [.int 0, .ref (u 63), .ref (u 64), .ref (u 65), .int 0, .int 0]))] ∧ ow_Th (va_A [(h0, .inr (14, [.ref (u 0), .ref (u 1), .ref (u 2), .ref (u 3), .ref (u 4), .ref (u 5), .ref (u 6), .ref (u 7), .ref (u 8), .ref (u 9), .ref (u 10), .ref (u 11), .ref (u 12), .ref (u 13), .ref (u 14), .ref (u 15), .ref (u 16), .ref (u 17), .ref (u 18)])), ((u 7), .inr (12, [.int 0, .ref (u 63), .ref (u 64), .ref (u 65), .int 0, .int 0]))] sz) RX11 130 "the tape has not so many bytes" sa "java/lang/IllegalArgumentException" U)) (va_Qi (fun r (_ : Unit) => r = if k = 0 then 0 else 1) (fun _ _ => True) (va_A [(h0, .inr (14, [.ref (u 0), .ref (u 1), .ref (u 2), .ref (u 3), .ref (u 4), .ref (u 5), .ref (u 6), .ref (u 7), .ref (u 8), .ref (u 9), .ref (u 10), .ref (u 11), .ref (u 12), .ref (u 13), .ref (u 14), .ref (u 15), .ref (u 16), .ref (u 17), .ref (u 18)])), ((u 7), .inr (12, [.int 0, .ref (u 63), .ref (u 64), .ref (u 65), .int 0, .int 0]))] sz)) (vx_X (fun _ : Unit => False) (fun _ _ _ => True) (va_A [(h0, .inr (14, [.ref (u 0), .ref (u 1), .ref (u 2), .ref (u 3), .ref (u 4), .ref (u 5), .ref (u 6), .ref (u 7), .ref (u 8), .ref (u 9), .ref (u 10), .ref (u 11), .ref (u 12), .ref (u 13), .ref (u 14), .ref (u 15), .ref (u 16), .ref (u 17), .ref (u 18)])), ((u 7), .inr (12, [.int 0, .ref (u 63), .ref (u 64), .ref (u 65), .int 0, .int 0]))] sz)) 1 6 (va_A [(h0, .inr (14, [.ref (u 0), .ref (u 1), .ref (u 2), .ref (u 3), .ref (u 4), .ref (u 5), .ref (u 6), .ref (u 7), .ref (u 8), .ref (u 9), .ref (u 10), .ref (u 11), .ref (u 12), .ref (u 13), .ref (u 14), .ref (u 15), .ref (u 16), .ref (u 17), .ref (u 18)])), ((u 7), .inr (12, [.int 0, .ref (u 63), .ref (u 64), .ref (u 65), .int 0, .int 0]))] sz) := by
  refine vx_ofWH (cc := cL_end) (maxL := 3) (ret := (some .int)) (hh := [(0, 5, 8, 19)]) (by decide) rfl ?_
  intro p e s m args below meth c s₁ B hml hv
  obtain ⟨rfl, hsz, hP, hK, hD0, hTh⟩ := hv
  have hx := B.exec
  have hb := B.bytes
  have hr := B.returns
  have hts := atoms_spec (ws := wf_L_end) B.pre
  have htab := vx_table (x := yL_end) B (hts _ List.mem_cons_self)
  have hown : s.vm.findClass RL = some m.cls := findClass_of_methodNamed B.named
  have hlocks := B.notSynchronized
  subst hsz
  have hD := hD0.self (sz := s.heap.size)
  generalize hAe : va_A [(h0, .inr (14, [.ref (u 0), .ref (u 1), .ref (u 2), .ref (u 3), .ref (u 4), .ref (u 5), .ref (u 6), .ref (u 7), .ref (u 8), .ref (u 9), .ref (u 10), .ref (u 11), .ref (u 12), .ref (u 13), .ref (u 14), .ref (u 15), .ref (u 16), .ref (u 17), .ref (u 18)])), ((u 7), .inr (12, [.int 0, .ref (u 63), .ref (u 64), .ref (u 65), .int 0, .int 0]))] s.heap.size = A at hD hTh ⊢
  have hA : ∀ q : Nat, s.heap.size ≤ q → A q := fun q h => by rw [← hAe]; exact Or.inr h
  have hS : va_S A s.heap s.heap [] := va_S.rf
  have hP : va_P (dC, dI) vwCl [(h0, .inr (14, [.ref (u 0), .ref (u 1), .ref (u 2), .ref (u 3), .ref (u 4), .ref (u 5), .ref (u 6), .ref (u 7), .ref (u 8), .ref (u 9), .ref (u 10), .ref (u 11), .ref (u 12), .ref (u 13), .ref (u 14), .ref (u 15), .ref (u 16), .ref (u 17), .ref (u 18)])), ((u 7), .inr (12, [.int 0, .ref (u 63), .ref (u 64), .ref (u 65), .int 0, .int 0]))] s.heap := hP
  have hl := lv_entry ([.ref h0, .int k]) (n := 3) (Nat.le_of_ble_eq_true rfl)
  rw [lg_entry_eq]
  generalize (lg_sl ([.ref h0, .int k]) ++ List.replicate (3 - (lg_sl ([.ref h0, .int k])).length) Slot.unset).toArray = ls at hl ⊢
  have hl : lv_has ls 3 [(0, .ref h0), (1, .int k)] := hl
  refine ow_named (fun QQ hQQ => ?_)
  refine lv_aload_n hx hb dL_end_0 rfl (lv_at hl 0 rfl) ?_
  refine lv_iload_n hx hb dL_end_1 rfl (lv_at hl 1 rfl) ?_
  have hFc := va_free (wc := [(h0, .inr (14, [.ref (u 0), .ref (u 1), .ref (u 2), .ref (u 3), .ref (u 4), .ref (u 5), .ref (u 6), .ref (u 7), .ref (u 8), .ref (u 9), .ref (u 10), .ref (u 11), .ref (u 12), .ref (u 13), .ref (u 14), .ref (u 15), .ref (u 16), .ref (u 17), .ref (u 18)])), ((u 7), .inr (12, [.int 0, .ref (u 63), .ref (u 64), .ref (u 65), .int 0, .int 0]))]) hD hS hA [0, 1] rfl
  refine vx_callv (vx_runV (As := [.int k]) (rest := []) ⟨hx, hb, hml, hown, hts⟩ (kf_X11_end l dC dI cI cB cJ cZ hlt h0 sa s.heap.size u k) (cwV 1 hts gf_L_end rfl rfl rfl (by decide +kernel) ⟨(Nat.le_of_ble_eq_true rfl), (Nat.le_of_ble_eq_true rfl)⟩) ⟨fun a U g mk q => by obtain ⟨q0, q1, qP, qK, qD, qT⟩ := q; exact ⟨q0, q1, qP, va_K.moved (u := U) (U := U.calling g mk a) (Vm.Alike.refl U.vm) qK, qD, ow_Th.same (u := U) (U := U.calling g mk a) rfl rfl qT⟩, va_recv hK hP (ci := 14) (q0 := 0) rfl rfl, fun U hU hW => ⟨rfl, by rw [hU], by rw [hU]; exact hP, va_K.moved hW.alike hK, hD.weaken (fun _ _ _ _ => trivial), ow_Th.to hTh hS hW hU (fun q h => hFc q h)⟩⟩ rfl rfl hl.1 rfl (lv_room (Nat.le_of_ble_eq_true rfl)) dL_end_2 ⟨(Nat.le_of_ble_eq_true rfl), (Nat.le_of_ble_eq_true rfl)⟩) hS (fun q _ h => hFc q h) hFc (fun q _ h => hFc q h) (fun E ce q9 u9 t H1 locs ht hvm hpx hBX hz1 hk1 hS hce hcv hcl => ?_) (fun u9 t H1 locs ht hvm hw hB hz1 hk1 hS => ?_)
  · subst hBX
    refine vx_catch (name := "java/lang/IllegalArgumentException") hown [] ⟨0, 5, 8, 19⟩ [] htab (fun z hz => by cases hz) (by decide) (by decide) (hts (.classLink RL 19 "java/lang/IllegalArgumentException") (by decide +kernel)) (va_Nw.use rfl hTh.2.2.2.2.2.2) hce hcv hcl ?_
    refine lv_astore_n (lv' := [(2, .ref q9), (0, .ref h0), (1, .int k)]) hx hb dL_end_8 rfl hl (by decide) rfl (fun ls hl => ?_)
    refine lv_iconst (v := 1) hx hb dL_end_9 (by decide) ?_
    refine W.widen (k := 1) (n := 6) (Nat.le_of_ble_eq_true rfl) (Nat.le_of_ble_eq_true rfl) ?_
    rw [hQQ]
    exact vx_ret (W.iret (v := 1) hx hb hr (fun t ht hW => ⟨⟨1, (), rfl, (if_neg hpx).symm, trivial⟩, hS.F ht⟩) hS.2.2 dL_end_10)
  · refine lv_goto (tgt := 11) hx hb dL_end_5 (by decide) ?_
    refine lv_iconst (v := 0) hx hb dL_end_11 (by decide) ?_
    refine W.widen (k := 1) (n := 6) (Nat.le_of_ble_eq_true rfl) (Nat.le_of_ble_eq_true rfl) ?_
    rw [hQQ]
    exact vx_ret (W.iret (v := 0) hx hb hr (fun t ht hW => ⟨⟨0, (), rfl, (if_pos hw).symm, trivial⟩, hS.F ht⟩) hS.2.2 dL_end_12)
theorem dL_braid_0 : decode cL_braid 0 = .ok (.aload_n 2, 1) := by decide +kernel
theorem dL_braid_1 : decode cL_braid 1 = .ok (.iconst 0, 1) := by decide +kernel
theorem dL_braid_2 : decode cL_braid 2 = .ok (.aload_n 0, 1) := by decide +kernel
theorem dL_braid_3 : decode cL_braid 3 = .ok (.iload_n 1, 1) := by decide +kernel
theorem dL_braid_4 : decode cL_braid 4 = .ok (.invokevirtual 25, 3) := by decide +kernel
theorem dL_braid_7 : decode cL_braid 7 = .ok (.i2l, 1) := by decide +kernel
theorem dL_braid_8 : decode cL_braid 8 = .ok (.lastore, 1) := by decide +kernel
theorem dL_braid_9 : decode cL_braid 9 = .ok (.goto 9, 3) := by decide +kernel
theorem dL_braid_12 : decode cL_braid 12 = .ok (.astore_n 3, 1) := by decide +kernel
theorem dL_braid_13 : decode cL_braid 13 = .ok (.iconst 1, 1) := by decide +kernel
theorem dL_braid_14 : decode cL_braid 14 = .ok (.ireturn, 1) := by decide +kernel
theorem dL_braid_15 : decode cL_braid 15 = .ok (.astore_n 3, 1) := by decide +kernel
theorem dL_braid_16 : decode cL_braid 16 = .ok (.iconst 2, 1) := by decide +kernel
theorem dL_braid_17 : decode cL_braid 17 = .ok (.ireturn, 1) := by decide +kernel
theorem dL_braid_18 : decode cL_braid 18 = .ok (.iconst 0, 1) := by decide +kernel
theorem dL_braid_19 : decode cL_braid 19 = .ok (.ireturn, 1) := by decide +kernel
def wf_L_braid : List Cond := .codeWith yL_braid cL_braid 4 (some .int) [(0, 9, 12, 19), (0, 9, 15, 13)] :: (.classLink RL 19 "java/lang/IllegalArgumentException" :: wsV RL 25 RX11 yX11_braid wf_braid)
theorem gf_L_braid : GoodIn wf_L_braid (wsV RL 25 RX11 yX11_braid wf_braid) := goodIn_sub (fun _ h => List.mem_cons_of_mem _ (List.mem_cons_of_mem _ h)) (by decide +kernel)
set_option maxHeartbeats 4000000 in
set_option maxRecDepth 100000 in
theorem kf_L_braid (l : Launch) (dC : Nat → ClassId) (dI : Nat → Nat → Nat) (cI cB cJ cZ : ClassId) (hlt : l.stackTraces = false) (h0 sa qo sz : Nat) (u : Nat → Nat) (f : Nat → Int64) (n : Int32) : vx_Met l yL_braid wf_L_braid (({ frames := 7, cells := 1, slots := 6, locals := 114 } : Room)) (va_Pc [.ref h0, .int n, .ref qo] (fun U => U.heap.size = sz ∧ va_P (dC, dI) vwCl [(h0, .inr (14, [.ref (u 0), .ref (u 1), .ref (u 2), .ref (u 3), .ref (u 4), .ref (u 5), .ref (u 6), .ref (u 7), .ref (u 8), .ref (u 9), .ref (u 10), .ref (u 11), .ref (u 12), .ref (u 13), .ref (u 14), .ref (u 15), .ref (u 16), .ref (u 17), .ref (u 18)])), ((u 7), .inr (12, [.int 0, .ref (u 63), .ref (u 64), .ref (u 65), .int 0, .int 0])), ((u 13), .inl (cI, 20, .inl (fun _ => 0))), ((u 14), .inl (cI, 20, .inl (fun _ => 0))), (qo, .inl (cJ, 1, .inr (.inl f)))] U.heap ∧ va_K (dC, dI) vwCl [(cI, .int), (cB, .byte), (cJ, .long), (cZ, .boolean)] U ∧ va_D (fun _ => True) [(h0, .inr (14, [.ref (u 0), .ref (u 1), .ref (u 2), .ref (u 3), .ref (u 4), .ref (u 5), .ref (u 6), .ref (u 7), .ref (u 8), .ref (u 9), .ref (u 10), .ref (u 11), .ref (u 12), .ref (u 13), .ref (u 14), .ref (u 15), .ref (u 16), .ref (u 17), .ref (u 18)])), ((u 7), .inr (12, [.int 0, .ref (u 63), .ref (u 64), .ref (u 65), .int 0, .int 0])), ((u 13), .inl (cI, 20, .inl (fun _ => 0))), ((u 14), .inl (cI, 20, .inl (fun _ => 0))), (qo, .inl (cJ, 1, .inr (.inl f)))] ∧ ow_Th (va_A [(h0, .inr (14, [.ref (u 0), .ref (u 1), .ref (u 2), .ref (u 3), .ref (u 4), .ref (u 5), .ref (u 6), .ref (u 7), .ref (u 8), .ref (u 9), .ref (u 10), .ref (u 11), .ref (u 12), .ref (u 13), .ref (u 14), .ref (u 15), .ref (u 16), .ref (u 17), .ref (u 18)])), ((u 7), .inr (12, [.int 0, .ref (u 63), .ref (u 64), .ref (u 65), .int 0, .int 0])), ((u 13), .inl (cI, 20, .inl (fun _ => 0))), ((u 14), .inl (cI, 20, .inl (fun _ => 0))), (qo, .inl (cJ, 1, .inr (.inl f)))] sz) RX11 149 "a braid has 2 to 5 strands" sa "java/lang/IllegalArgumentException" U)) (va_Qi (fun r (g : Nat → Int64) => (r = 1 ∧ (n < 2 ∨ ¬ n ≤ 5)) ∨ (r = 0 ∧ g 0 = 0 ∧ ¬ n < 2 ∧ n ≤ 5)) (fun g t => va_P (dC, dI) vwCl [(qo, .inl (cJ, 1, .inr (.inl g)))] t.heap ∧ va_D (va_A [(h0, .inr (14, [.ref (u 0), .ref (u 1), .ref (u 2), .ref (u 3), .ref (u 4), .ref (u 5), .ref (u 6), .ref (u 7), .ref (u 8), .ref (u 9), .ref (u 10), .ref (u 11), .ref (u 12), .ref (u 13), .ref (u 14), .ref (u 15), .ref (u 16), .ref (u 17), .ref (u 18)])), ((u 7), .inr (12, [.int 0, .ref (u 63), .ref (u 64), .ref (u 65), .int 0, .int 0])), ((u 13), .inl (cI, 20, .inl (fun _ => 0))), ((u 14), .inl (cI, 20, .inl (fun _ => 0))), (qo, .inl (cJ, 1, .inr (.inl f)))] sz) [(qo, .inl (cJ, 1, .inr (.inl g)))]) (va_A [(h0, .inr (14, [.ref (u 0), .ref (u 1), .ref (u 2), .ref (u 3), .ref (u 4), .ref (u 5), .ref (u 6), .ref (u 7), .ref (u 8), .ref (u 9), .ref (u 10), .ref (u 11), .ref (u 12), .ref (u 13), .ref (u 14), .ref (u 15), .ref (u 16), .ref (u 17), .ref (u 18)])), ((u 7), .inr (12, [.int 0, .ref (u 63), .ref (u 64), .ref (u 65), .int 0, .int 0])), ((u 13), .inl (cI, 20, .inl (fun _ => 0))), ((u 14), .inl (cI, 20, .inl (fun _ => 0))), (qo, .inl (cJ, 1, .inr (.inl f)))] sz)) (vx_X (fun _ : Unit => False) (fun _ _ _ => True) (va_A [(h0, .inr (14, [.ref (u 0), .ref (u 1), .ref (u 2), .ref (u 3), .ref (u 4), .ref (u 5), .ref (u 6), .ref (u 7), .ref (u 8), .ref (u 9), .ref (u 10), .ref (u 11), .ref (u 12), .ref (u 13), .ref (u 14), .ref (u 15), .ref (u 16), .ref (u 17), .ref (u 18)])), ((u 7), .inr (12, [.int 0, .ref (u 63), .ref (u 64), .ref (u 65), .int 0, .int 0])), ((u 13), .inl (cI, 20, .inl (fun _ => 0))), ((u 14), .inl (cI, 20, .inl (fun _ => 0))), (qo, .inl (cJ, 1, .inr (.inl f)))] sz)) 1 6 (va_A [(h0, .inr (14, [.ref (u 0), .ref (u 1), .ref (u 2), .ref (u 3), .ref (u 4), .ref (u 5), .ref (u 6), .ref (u 7), .ref (u 8), .ref (u 9), .ref (u 10), .ref (u 11), .ref (u 12), .ref (u 13), .ref (u 14), .ref (u 15), .ref (u 16), .ref (u 17), .ref (u 18)])), ((u 7), .inr (12, [.int 0, .ref (u 63), .ref (u 64), .ref (u 65), .int 0, .int 0])), ((u 13), .inl (cI, 20, .inl (fun _ => 0))), ((u 14), .inl (cI, 20, .inl (fun _ => 0))), (qo, .inl (cJ, 1, .inr (.inl f)))] sz) := by
  refine vx_ofWH (cc := cL_braid) (maxL := 4) (ret := (some .int)) (hh := [(0, 9, 12, 19), (0, 9, 15, 13)]) (by decide) rfl ?_
  intro p e s m args below meth c s₁ B hml hv
  obtain ⟨rfl, hsz, hP, hK, hD0, hTh⟩ := hv
  have hx := B.exec
  have hb := B.bytes
  have hr := B.returns
  have hts := atoms_spec (ws := wf_L_braid) B.pre
  have htab := vx_table (x := yL_braid) B (hts _ List.mem_cons_self)
  have hown : s.vm.findClass RL = some m.cls := findClass_of_methodNamed B.named
  have hlocks := B.notSynchronized
  subst hsz
  have hD := hD0.self (sz := s.heap.size)
  generalize hAe : va_A [(h0, .inr (14, [.ref (u 0), .ref (u 1), .ref (u 2), .ref (u 3), .ref (u 4), .ref (u 5), .ref (u 6), .ref (u 7), .ref (u 8), .ref (u 9), .ref (u 10), .ref (u 11), .ref (u 12), .ref (u 13), .ref (u 14), .ref (u 15), .ref (u 16), .ref (u 17), .ref (u 18)])), ((u 7), .inr (12, [.int 0, .ref (u 63), .ref (u 64), .ref (u 65), .int 0, .int 0])), ((u 13), .inl (cI, 20, .inl (fun _ => 0))), ((u 14), .inl (cI, 20, .inl (fun _ => 0))), (qo, .inl (cJ, 1, .inr (.inl f)))] s.heap.size = A at hD hTh ⊢
  have hA : ∀ q : Nat, s.heap.size ≤ q → A q := fun q h => by rw [← hAe]; exact Or.inr h
  have hS : va_S A s.heap s.heap [] := va_S.rf
  have hP : va_P (dC, dI) vwCl [(h0, .inr (14, [.ref (u 0), .ref (u 1), .ref (u 2), .ref (u 3), .ref (u 4), .ref (u 5), .ref (u 6), .ref (u 7), .ref (u 8), .ref (u 9), .ref (u 10), .ref (u 11), .ref (u 12), .ref (u 13), .ref (u 14), .ref (u 15), .ref (u 16), .ref (u 17), .ref (u 18)])), ((u 7), .inr (12, [.int 0, .ref (u 63), .ref (u 64), .ref (u 65), .int 0, .int 0])), ((u 13), .inl (cI, 20, .inl (fun _ => 0))), ((u 14), .inl (cI, 20, .inl (fun _ => 0))), (qo, .inl (cJ, 1, .inr (.inl f)))] s.heap := hP
  have hl := lv_entry ([.ref h0, .int n, .ref qo]) (n := 4) (Nat.le_of_ble_eq_true rfl)
  rw [lg_entry_eq]
  generalize (lg_sl ([.ref h0, .int n, .ref qo]) ++ List.replicate (4 - (lg_sl ([.ref h0, .int n, .ref qo])).length) Slot.unset).toArray = ls at hl ⊢
  have hl : lv_has ls 4 [(0, .ref h0), (1, .int n), (2, .ref qo)] := hl
  refine ow_named (fun QQ hQQ => ?_)
  refine lv_aload_n hx hb dL_braid_0 rfl (lv_at hl 2 rfl) ?_
  refine lv_iconst (v := 0) hx hb dL_braid_1 (by decide) ?_
  refine lv_aload_n hx hb dL_braid_2 rfl (lv_at hl 0 rfl) ?_
  refine lv_iload_n hx hb dL_braid_3 rfl (lv_at hl 1 rfl) ?_
  have hPc := hP.sub (ws' := [(h0, .inr (14, [.ref (u 0), .ref (u 1), .ref (u 2), .ref (u 3), .ref (u 4), .ref (u 5), .ref (u 6), .ref (u 7), .ref (u 8), .ref (u 9), .ref (u 10), .ref (u 11), .ref (u 12), .ref (u 13), .ref (u 14), .ref (u 15), .ref (u 16), .ref (u 17), .ref (u 18)])), ((u 7), .inr (12, [.int 0, .ref (u 63), .ref (u 64), .ref (u 65), .int 0, .int 0])), ((u 13), .inl (cI, 20, .inl (fun _ => 0))), ((u 14), .inl (cI, 20, .inl (fun _ => 0)))]) [0, 1, 2, 3] rfl
  have hDc := hD.sub (ws' := [(h0, .inr (14, [.ref (u 0), .ref (u 1), .ref (u 2), .ref (u 3), .ref (u 4), .ref (u 5), .ref (u 6), .ref (u 7), .ref (u 8), .ref (u 9), .ref (u 10), .ref (u 11), .ref (u 12), .ref (u 13), .ref (u 14), .ref (u 15), .ref (u 16), .ref (u 17), .ref (u 18)])), ((u 7), .inr (12, [.int 0, .ref (u 63), .ref (u 64), .ref (u 65), .int 0, .int 0])), ((u 13), .inl (cI, 20, .inl (fun _ => 0))), ((u 14), .inl (cI, 20, .inl (fun _ => 0)))]) [0, 1, 2, 3] (by decide) rfl
  have hFc := va_free (wc := [(h0, .inr (14, [.ref (u 0), .ref (u 1), .ref (u 2), .ref (u 3), .ref (u 4), .ref (u 5), .ref (u 6), .ref (u 7), .ref (u 8), .ref (u 9), .ref (u 10), .ref (u 11), .ref (u 12), .ref (u 13), .ref (u 14), .ref (u 15), .ref (u 16), .ref (u 17), .ref (u 18)])), ((u 7), .inr (12, [.int 0, .ref (u 63), .ref (u 64), .ref (u 65), .int 0, .int 0])), ((u 13), .inl (cI, 20, .inl (fun _ => 0))), ((u 14), .inl (cI, 20, .inl (fun _ => 0)))]) hD hS hA [0, 1, 2, 3] rfl
  refine vx_calli (vx_runV (As := [.int n]) (rest := [.int 0, .ref qo]) ⟨hx, hb, hml, hown, hts⟩ (kf_X11_braid l dC dI cI cB cJ cZ hlt h0 sa s.heap.size u n) (cwV 1 hts gf_L_braid rfl rfl rfl (by decide +kernel) ⟨(Nat.le_of_ble_eq_true rfl), (Nat.le_of_ble_eq_true rfl)⟩) ⟨fun a U g mk q => by obtain ⟨q0, q1, qP, qK, qD, qT⟩ := q; exact ⟨q0, q1, qP, va_K.moved (u := U) (U := U.calling g mk a) (Vm.Alike.refl U.vm) qK, qD, ow_Th.same (u := U) (U := U.calling g mk a) rfl rfl qT⟩, va_recv hK hPc (ci := 14) (q0 := 0) rfl rfl, fun U hU hW => ⟨rfl, by rw [hU], by rw [hU]; exact hPc, va_K.moved hW.alike hK, hDc.weaken (fun _ _ _ _ => trivial), ow_Th.to hTh hS hW hU (fun q h => hFc q h)⟩⟩ rfl rfl hl.1 rfl (lv_room (Nat.le_of_ble_eq_true rfl)) dL_braid_4 ⟨(Nat.le_of_ble_eq_true rfl), (Nat.le_of_ble_eq_true rfl)⟩) hS (fun q _ h => hFc q h) hFc (fun q _ h => hFc q h) (fun E ce q9 u9 t H1 locs ht hvm hpx hBX hz1 hk1 hS hce hcv hcl => ?_) (fun r9 u9 t H1 locs ht hvm hw hB hz1 hk1 hS => ?_)
  · obtain ⟨hP, hD⟩ := va_join (wr := [(qo, .inl (cJ, 1, .inr (.inl f)))]) (w1 := []) (H1 := H1) hP hD [0, 1, 2, 3] [4] rfl rfl (by decide) (by decide) hk1 hFc (fun k9 x9 h9 => by simp at h9) ⟨fun i9 j9 p9 q9 h9 => by simp at h9, fun k9 x9 h9 => by simp at h9⟩
    have hP : va_P (dC, dI) vwCl [(qo, .inl (cJ, 1, .inr (.inl f)))] H1 := hP
    have hD : va_D A [(qo, .inl (cJ, 1, .inr (.inl f)))] := hD
    subst hBX
    refine vx_catch (name := "java/lang/IllegalArgumentException") hown [] ⟨0, 9, 12, 19⟩ [⟨0, 9, 15, 13⟩] htab (fun z hz => by cases hz) (by decide) (by decide) (hts (.classLink RL 19 "java/lang/IllegalArgumentException") (by decide +kernel)) (va_Nw.use rfl hTh.2.2.2.2.2.2) hce hcv hcl ?_
    refine lv_astore_n (lv' := [(3, .ref q9), (0, .ref h0), (1, .int n), (2, .ref qo)]) hx hb dL_braid_12 rfl hl (by decide) rfl (fun ls hl => ?_)
    refine lv_iconst (v := 1) hx hb dL_braid_13 (by decide) ?_
    refine W.widen (k := 1) (n := 6) (Nat.le_of_ble_eq_true rfl) (Nat.le_of_ble_eq_true rfl) ?_
    rw [hQQ]
    exact vx_ret (W.iret (v := 1) hx hb hr (fun t ht hW => ⟨⟨1, _, rfl, Or.inl ⟨rfl, hpx⟩, by rw [ht]; exact hP, hD⟩, hS.F ht⟩) hS.2.2 dL_braid_14)
  · obtain ⟨hP, hD⟩ := va_join (wr := [(qo, .inl (cJ, 1, .inr (.inl f)))]) (w1 := []) (H1 := H1) hP hD [0, 1, 2, 3] [4] rfl rfl (by decide) (by decide) hk1 hFc (fun k9 x9 h9 => by simp at h9) ⟨fun i9 j9 p9 q9 h9 => by simp at h9, fun k9 x9 h9 => by simp at h9⟩
    have hP : va_P (dC, dI) vwCl [(qo, .inl (cJ, 1, .inr (.inl f)))] H1 := hP
    have hD : va_D A [(qo, .inl (cJ, 1, .inr (.inl f)))] := hD
    obtain ⟨hr0, hw2, hw3⟩ := hw
    subst hr0
    generalize H1 = H at hP hS ⊢
    refine lv_i2l hx hb dL_braid_7 rfl ?_
    refine va_last hx hb hK hP hD hS 0 2 rfl rfl (vp_in_nI (n := 0) (N := 1) (by decide) (by decide)) dL_braid_8 (fun H locs hP hD hS => ?_)
    have hP : va_P (dC, dI) vwCl [(qo, .inl (cJ, 1, .inr (.inl (vp_updL f (0 : Int32).toNatClampNeg ((0 : Int32).toInt64)))))] H := hP
    have hD : va_D A [(qo, .inl (cJ, 1, .inr (.inl (vp_updL f (0 : Int32).toNatClampNeg ((0 : Int32).toInt64)))))] := hD
    refine lv_goto (tgt := 18) hx hb dL_braid_9 (by decide) ?_
    refine lv_iconst (v := 0) hx hb dL_braid_18 (by decide) ?_
    refine W.widen (k := 1) (n := 6) (Nat.le_of_ble_eq_true rfl) (Nat.le_of_ble_eq_true rfl) ?_
    rw [hQQ]
    exact vx_ret (W.iret (v := 0) hx hb hr (fun t ht hW => ⟨⟨0, _, rfl, Or.inr ⟨rfl, pk_uLs, hw2, hw3⟩, by rw [ht]; exact hP, hD⟩, hS.F ht⟩) hS.2.2 dL_braid_19)
