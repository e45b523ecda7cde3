theorem po_w_in {P : Nat → Bool} : ∀ (d w x : Nat), po_w P d w = some x → w ≤ x ∧ x < w + d := by
  intro d
  induction d with
  | zero => intro w x h; cases h
  | succ d ih =>
    intro w x h
    rw [po_w] at h
    split at h
    · have e : w = x := Option.some.inj h
      omega
    · have := ih (w + 1) x h
      omega
theorem po_v_in {P : Nat → Nat → Bool} {n : Nat} : ∀ (d v : Nat) (q : Nat × Nat), po_v P n d v = some q → q.1 < v + d ∧ q.2 < n ∧ q.1 < q.2 := by
  intro d
  induction d with
  | zero => intro v q h; cases h
  | succ d ih =>
    intro v q h
    rw [po_v] at h
    split at h
    · rename_i w hw
      have e : (v, w) = q := Option.some.inj h
      have := po_w_in _ _ _ hw
      rw [← e]
      refine ⟨?_, ?_, ?_⟩
      · show v < v + (d + 1)
        omega
      · show w < n
        omega
      · show v < w
        omega
    · have := ih (v + 1) q h
      omega
theorem np_once_in {c : Nat} {S : ow_NP} {q : Nat × Nat} (h : np_once c S = some q) : q.1 < 2 * c ∧ q.2 < 2 * c := by
  have := po_v_in (2 * c) 0 q h
  omega
theorem vn_once {c : Nat} {S : ow_NP} (h : vn c S) : vn c (np_onceS c S) := by
  unfold np_onceS
  split
  · exact h
  · rename_i q hq
    exact vn_exchange h (np_once_in hq).1 (np_once_in hq).2
theorem np_once_b24 {c : Nat} {S : ow_NP} (hc : c ≤ 12) (h : ow_b24 S) : ow_b24 (np_onceS c S) := by
  unfold np_onceS
  split
  · exact h
  · rename_i q hq
    have := np_once_in hq
    exact np_exchange_b24 h (by omega) (by omega)
/-- parted as long as one can be, at most d times -/
def np_all (c : Nat) : Nat → ow_NP → ow_NP
  | 0, S => S
  | d + 1, S => match np_once c S with
    | none => S
    | some _ => np_all c d (np_onceS c S)
theorem vn_all {c : Nat} : ∀ (d : Nat) (S : ow_NP), vn c S → vn c (np_all c d S) := by
  intro d
  induction d with
  | zero => intro S h; exact h
  | succ d ih =>
    intro S h
    rw [np_all]
    split
    · exact h
    · exact ih _ (vn_once h)
theorem np_all_b24 {c : Nat} (hc : c ≤ 12) : ∀ (d : Nat) (S : ow_NP), ow_b24 S → ow_b24 (np_all c d S) := by
  intro d
  induction d with
  | zero => intro S h; exact h
  | succ d ih =>
    intro S h
    rw [np_all]
    split
    · exact h
    · exact ih _ (np_once_b24 hc h)
theorem dgX7_partAll_0 : decode cX7_partAll 0 = .ok (.iconst 0, 1) := by decide +kernel
theorem dgX7_partAll_1 : decode cX7_partAll 1 = .ok (.istore_n 1, 1) := by decide +kernel
theorem dgX7_partAll_2 : decode cX7_partAll 2 = .ok (.iload_n 1, 1) := by decide +kernel
theorem dgX7_partAll_3 : decode cX7_partAll 3 = .ok (.bipush 12, 2) := by decide +kernel
theorem dgX7_partAll_5 : decode cX7_partAll 5 = .ok (.if_icmp .ge 17, 3) := by decide +kernel
theorem dgX7_partAll_8 : decode cX7_partAll 8 = .ok (.aload_n 0, 1) := by decide +kernel
theorem dgX7_partAll_9 : decode cX7_partAll 9 = .ok (.invokevirtual 93, 3) := by decide +kernel
theorem dgX7_partAll_12 : decode cX7_partAll 12 = .ok (.ifCond .ne 4, 3) := by decide +kernel
theorem dgX7_partAll_15 : decode cX7_partAll 15 = .ok (.return_, 1) := by decide +kernel
theorem dgX7_partAll_16 : decode cX7_partAll 16 = .ok (.iinc 1 1, 3) := by decide +kernel
theorem dgX7_partAll_19 : decode cX7_partAll 19 = .ok (.goto (-17), 3) := by decide +kernel
theorem dgX7_partAll_22 : decode cX7_partAll 22 = .ok (.return_, 1) := by decide +kernel
def wg_X7_partAll : List Cond := .code yX7_partAll cX7_partAll 2 none :: (([] ++ wsX70) ++ (wsV RX7 93 RX7 yX7_partOnce wg_X7_partOnce ++ []))
theorem gg_X7_partAll_0 : GoodIn wg_X7_partAll (wsV RX7 93 RX7 yX7_partOnce wg_X7_partOnce) := goodIn_sub (fun _ h => List.mem_cons_of_mem _ (List.mem_append_right _ (List.mem_append_left _ h))) (by decide +kernel)
set_option maxHeartbeats 4000000 in
set_option maxRecDepth 100000 in
theorem kg_X7_partAll (l : Launch) (dC : Nat → ClassId) (dI : Nat → Nat → Nat) (cI cB cJ cZ : ClassId) (aX : Nat) (nx : Nat → Nat) (x8 x9 x10 : Int32) (S : ow_NP) (hS0 : ow_b24 S) (F4 F5 Z : Nat → Int32) (cn : Nat) (hc : cn ≤ 12) (hvn : vn cn S) (sz : Nat) : Met l yX7_partAll wg_X7_partAll (({ frames := 4, cells := 0, slots := 0, locals := 110 } : Room)) (va_Pc [.ref aX] (fun U => U.heap.size = sz ∧ va_P (dC, dI) vwCl [(aX, .inr (10, [.ref (nx 0), .ref (nx 1), .ref (nx 2), .ref (nx 3), .ref (nx 4), .ref (nx 5), .ref (nx 6), .int (nI cn), .int x8, .int x9, .int x10])), ((nx 0), .inl (cI, 24, .inl (ow_nI S.1))), ((nx 1), .inl (cI, 24, .inl (ow_nI S.2))), ((nx 4), .inl (cI, 24, .inl F4)), ((nx 5), .inl (cI, 24, .inl F5)), ((nx 6), .inl (cI, 24, .inl Z))] U.heap ∧ va_K (dC, dI) vwCl [(cI, .int), (cB, .byte), (cJ, .long), (cZ, .boolean)] U ∧ va_D (fun _ => True) [(aX, .inr (10, [.ref (nx 0), .ref (nx 1), .ref (nx 2), .ref (nx 3), .ref (nx 4), .ref (nx 5), .ref (nx 6), .int (nI cn), .int x8, .int x9, .int x10])), ((nx 0), .inl (cI, 24, .inl (ow_nI S.1))), ((nx 1), .inl (cI, 24, .inl (ow_nI S.2))), ((nx 4), .inl (cI, 24, .inl F4)), ((nx 5), .inl (cI, 24, .inl F5)), ((nx 6), .inl (cI, 24, .inl Z))])) (va_Qv (fun (g : Int32 × Int32 × (Nat → Int32) × (Nat → Int32) × (Nat → Int32)) => True) (fun g t => va_P (dC, dI) vwCl [(aX, .inr (10, [.ref (nx 0), .ref (nx 1), .ref (nx 2), .ref (nx 3), .ref (nx 4), .ref (nx 5), .ref (nx 6), .int (nI cn), .int x8, .int g.1, .int g.2.1])), ((nx 0), .inl (cI, 24, .inl (ow_nI (np_all cn 12 S).1))), ((nx 1), .inl (cI, 24, .inl (ow_nI (np_all cn 12 S).2))), ((nx 4), .inl (cI, 24, .inl g.2.2.1)), ((nx 5), .inl (cI, 24, .inl g.2.2.2.1)), ((nx 6), .inl (cI, 24, .inl g.2.2.2.2))] t.heap ∧ va_D (va_A [(aX, .inr (10, [.ref (nx 0), .ref (nx 1), .ref (nx 2), .ref (nx 3), .ref (nx 4), .ref (nx 5), .ref (nx 6), .int (nI cn), .int x8, .int x9, .int x10])), ((nx 0), .inl (cI, 24, .inl (ow_nI S.1))), ((nx 1), .inl (cI, 24, .inl (ow_nI S.2))), ((nx 4), .inl (cI, 24, .inl F4)), ((nx 5), .inl (cI, 24, .inl F5)), ((nx 6), .inl (cI, 24, .inl Z))] sz) [(aX, .inr (10, [.ref (nx 0), .ref (nx 1), .ref (nx 2), .ref (nx 3), .ref (nx 4), .ref (nx 5), .ref (nx 6), .int (nI cn), .int x8, .int g.1, .int g.2.1])), ((nx 0), .inl (cI, 24, .inl (ow_nI (np_all cn 12 S).1))), ((nx 1), .inl (cI, 24, .inl (ow_nI (np_all cn 12 S).2))), ((nx 4), .inl (cI, 24, .inl g.2.2.1)), ((nx 5), .inl (cI, 24, .inl g.2.2.2.1)), ((nx 6), .inl (cI, 24, .inl g.2.2.2.2))]) (va_A [(aX, .inr (10, [.ref (nx 0), .ref (nx 1), .ref (nx 2), .ref (nx 3), .ref (nx 4), .ref (nx 5), .ref (nx 6), .int (nI cn), .int x8, .int x9, .int x10])), ((nx 0), .inl (cI, 24, .inl (ow_nI S.1))), ((nx 1), .inl (cI, 24, .inl (ow_nI S.2))), ((nx 4), .inl (cI, 24, .inl F4)), ((nx 5), .inl (cI, 24, .inl F5)), ((nx 6), .inl (cI, 24, .inl Z))] sz)) 0 0 (va_A [(aX, .inr (10, [.ref (nx 0), .ref (nx 1), .ref (nx 2), .ref (nx 3), .ref (nx 4), .ref (nx 5), .ref (nx 6), .int (nI cn), .int x8, .int x9, .int x10])), ((nx 0), .inl (cI, 24, .inl (ow_nI S.1))), ((nx 1), .inl (cI, 24, .inl (ow_nI S.2))), ((nx 4), .inl (cI, 24, .inl F4)), ((nx 5), .inl (cI, 24, .inl F5)), ((nx 6), .inl (cI, 24, .inl Z))] sz) := by
  refine Met.ofW (cc := cX7_partAll) (maxL := 2) (ret := none) (by decide) rfl ?_
  intro p e s m args below meth c s₁ B hml hv
  obtain ⟨rfl, hsz, hP, hK, hD0⟩ := hv
  have hx := B.exec
  have hb := B.bytes
  have hr := B.returns
  have hts := atoms_spec (ws := wg_X7_partAll) B.pre
  have hown : s.vm.findClass RX7 = some m.cls := findClass_of_methodNamed B.named
  have hlocks := B.notSynchronized
  subst hsz
  have hD := hD0.self (sz := s.heap.size)
  generalize hAe : va_A [(aX, .inr (10, [.ref (nx 0), .ref (nx 1), .ref (nx 2), .ref (nx 3), .ref (nx 4), .ref (nx 5), .ref (nx 6), .int (nI cn), .int x8, .int x9, .int x10])), ((nx 0), .inl (cI, 24, .inl (ow_nI S.1))), ((nx 1), .inl (cI, 24, .inl (ow_nI S.2))), ((nx 4), .inl (cI, 24, .inl F4)), ((nx 5), .inl (cI, 24, .inl F5)), ((nx 6), .inl (cI, 24, .inl Z))] s.heap.size = A at hD ⊢
  have hA : ∀ q : Nat, s.heap.size ≤ q → A q := fun q h => by rw [← hAe]; exact Or.inr h
  have hS : va_S A s.heap s.heap [] := va_S.rf
  have hP : va_P (dC, dI) vwCl [(aX, .inr (10, [.ref (nx 0), .ref (nx 1), .ref (nx 2), .ref (nx 3), .ref (nx 4), .ref (nx 5), .ref (nx 6), .int (nI cn), .int x8, .int x9, .int x10])), ((nx 0), .inl (cI, 24, .inl (ow_nI S.1))), ((nx 1), .inl (cI, 24, .inl (ow_nI S.2))), ((nx 4), .inl (cI, 24, .inl F4)), ((nx 5), .inl (cI, 24, .inl F5)), ((nx 6), .inl (cI, 24, .inl Z))] s.heap := hP
  have hl := lv_entry ([.ref aX]) (n := 2) (Nat.le_of_ble_eq_true rfl)
  rw [lg_entry_eq]
  generalize (lg_sl ([.ref aX]) ++ List.replicate (2 - (lg_sl ([.ref aX])).length) Slot.unset).toArray = ls at hl ⊢
  have hl : lv_has ls 2 [(0, .ref aX)] := hl
  refine ow_named (fun QQ hQQ => ?_)
  suffices key9 : ∀ (H : Heap) (locs : List Loc), va_P (dC, dI) vwCl [(aX, .inr (10, [.ref (nx 0), .ref (nx 1), .ref (nx 2), .ref (nx 3), .ref (nx 4), .ref (nx 5), .ref (nx 6), .int (nI cn), .int x8, .int x9, .int x10])), ((nx 0), .inl (cI, 24, .inl (ow_nI S.1))), ((nx 1), .inl (cI, 24, .inl (ow_nI S.2))), ((nx 4), .inl (cI, 24, .inl F4)), ((nx 5), .inl (cI, 24, .inl F5)), ((nx 6), .inl (cI, 24, .inl Z))] H → va_S A s.heap H locs → W p l e ({ frames := 4, cells := 0, slots := 0, locals := 110 } : Room) s m ([.ref aX] : List Value).toArray below meth c H locs 0 0 QQ (F0 m 0 ls []) from key9 s.heap [] hP hS
  intro H locs hP hS
  have L2 : ∀ (d i : Nat) (T : ow_NP) (a y : Int32) (f4 f5 f6 : Nat → Int32), i + d = 12 → ow_b24 T → vn cn T → np_all cn 12 S = np_all cn d T → ∀ (H : Heap) (locs : List Loc) (ls : Array Slot), va_P (dC, dI) vwCl [(aX, .inr (10, [.ref (nx 0), .ref (nx 1), .ref (nx 2), .ref (nx 3), .ref (nx 4), .ref (nx 5), .ref (nx 6), .int (nI cn), .int x8, .int a, .int y])), ((nx 0), .inl (cI, 24, .inl (ow_nI T.1))), ((nx 1), .inl (cI, 24, .inl (ow_nI T.2))), ((nx 4), .inl (cI, 24, .inl f4)), ((nx 5), .inl (cI, 24, .inl f5)), ((nx 6), .inl (cI, 24, .inl f6))] H → va_D A [(aX, .inr (10, [.ref (nx 0), .ref (nx 1), .ref (nx 2), .ref (nx 3), .ref (nx 4), .ref (nx 5), .ref (nx 6), .int (nI cn), .int x8, .int a, .int y])), ((nx 0), .inl (cI, 24, .inl (ow_nI T.1))), ((nx 1), .inl (cI, 24, .inl (ow_nI T.2))), ((nx 4), .inl (cI, 24, .inl f4)), ((nx 5), .inl (cI, 24, .inl f5)), ((nx 6), .inl (cI, 24, .inl f6))] → va_S A s.heap H locs → lv_has ls 2 [(0, .ref aX), (1, .int (nI i))] → W p l e ({ frames := 4, cells := 0, slots := 0, locals := 110 } : Room) s m ([.ref aX] : List Value).toArray below meth c H locs 0 0 QQ (F0 m 2 ls []) := by
    intro d
    induction d with
    | zero =>
      intro i T a y f4 f5 f6 hi hbT hvT hq H locs ls hP hD hS hl
      have hq : np_all cn 12 S = T := hq
      refine lv_iload_n hx hb dgX7_partAll_2 rfl (lv_at hl 1 rfl) ?_
      refine lv_bipush (v := 12) hx hb dgX7_partAll_3 (by decide) ?_
      refine lv_icmp_ge (tgt := 22) hx hb dgX7_partAll_5 (by decide) (fun _ => ?_) (fun c9 => absurd (nI_le (a := 12) (b := i) (by omega) (by omega)) c9)
      have hP : va_P (dC, dI) vwCl [(aX, .inr (10, [.ref (nx 0), .ref (nx 1), .ref (nx 2), .ref (nx 3), .ref (nx 4), .ref (nx 5), .ref (nx 6), .int (nI cn), .int x8, .int a, .int y])), ((nx 0), .inl (cI, 24, .inl (ow_nI (np_all cn 12 S).1))), ((nx 1), .inl (cI, 24, .inl (ow_nI (np_all cn 12 S).2))), ((nx 4), .inl (cI, 24, .inl f4)), ((nx 5), .inl (cI, 24, .inl f5)), ((nx 6), .inl (cI, 24, .inl f6))] H := by rw [hq]; exact hP
      have hD : va_D A [(aX, .inr (10, [.ref (nx 0), .ref (nx 1), .ref (nx 2), .ref (nx 3), .ref (nx 4), .ref (nx 5), .ref (nx 6), .int (nI cn), .int x8, .int a, .int y])), ((nx 0), .inl (cI, 24, .inl (ow_nI (np_all cn 12 S).1))), ((nx 1), .inl (cI, 24, .inl (ow_nI (np_all cn 12 S).2))), ((nx 4), .inl (cI, 24, .inl f4)), ((nx 5), .inl (cI, 24, .inl f5)), ((nx 6), .inl (cI, 24, .inl f6))] := by rw [hq]; exact hD
      rw [hQQ]
      exact W.vret hx hb hr (fun t ht hW => ⟨⟨(a, y, f4, f5, f6), rfl, trivial, by rw [ht]; exact hP, hD⟩, hS.F ht⟩) hS.2.2 dgX7_partAll_22
    | succ d ih =>
      intro i T a y f4 f5 f6 hi hbT hvT hq H locs ls hP hD hS hl
      refine lv_iload_n hx hb dgX7_partAll_2 rfl (lv_at hl 1 rfl) ?_
      refine lv_bipush (v := 12) hx hb dgX7_partAll_3 (by decide) ?_
      refine lv_icmp_ge (tgt := 22) hx hb dgX7_partAll_5 (by decide) (fun c9 => absurd c9 (nI_ge (a := i) (b := 12) (by omega) (by omega))) (fun _ => ?_)
      refine lv_aload_n hx hb dgX7_partAll_8 rfl (lv_at hl 0 rfl) ?_
      have hPc := hP.sub (ws' := [(aX, .inr (10, [.ref (nx 0), .ref (nx 1), .ref (nx 2), .ref (nx 3), .ref (nx 4), .ref (nx 5), .ref (nx 6), .int (nI cn), .int x8, .int a, .int y])), ((nx 0), .inl (cI, 24, .inl (ow_nI T.1))), ((nx 1), .inl (cI, 24, .inl (ow_nI T.2))), ((nx 4), .inl (cI, 24, .inl f4)), ((nx 5), .inl (cI, 24, .inl f5)), ((nx 6), .inl (cI, 24, .inl f6))]) [0, 1, 2, 3, 4, 5] rfl
      have hDc := hD.sub (ws' := [(aX, .inr (10, [.ref (nx 0), .ref (nx 1), .ref (nx 2), .ref (nx 3), .ref (nx 4), .ref (nx 5), .ref (nx 6), .int (nI cn), .int x8, .int a, .int y])), ((nx 0), .inl (cI, 24, .inl (ow_nI T.1))), ((nx 1), .inl (cI, 24, .inl (ow_nI T.2))), ((nx 4), .inl (cI, 24, .inl f4)), ((nx 5), .inl (cI, 24, .inl f5)), ((nx 6), .inl (cI, 24, .inl f6))]) [0, 1, 2, 3, 4, 5] (by decide) rfl
      have hFc := va_free (wc := [(aX, .inr (10, [.ref (nx 0), .ref (nx 1), .ref (nx 2), .ref (nx 3), .ref (nx 4), .ref (nx 5), .ref (nx 6), .int (nI cn), .int x8, .int a, .int y])), ((nx 0), .inl (cI, 24, .inl (ow_nI T.1))), ((nx 1), .inl (cI, 24, .inl (ow_nI T.2))), ((nx 4), .inl (cI, 24, .inl f4)), ((nx 5), .inl (cI, 24, .inl f5)), ((nx 6), .inl (cI, 24, .inl f6))]) hD hS hA [0, 1, 2, 3, 4, 5] rfl
      refine va_calli (va_runV (As := []) (rest := []) ⟨hx, hb, hml, hown, hts⟩ (kg_X7_partOnce l dC dI cI cB cJ cZ aX nx x8 a y T hbT f4 f5 f6 cn hc hvT H.size) (cwV 0 hts gg_X7_partAll_0 rfl rfl rfl (by decide +kernel) ⟨(Nat.le_of_ble_eq_true rfl), (Nat.le_of_ble_eq_true rfl)⟩) ⟨fun a U g mk q => by obtain ⟨q0, q1, qP, qK, qD⟩ := q; exact ⟨q0, q1, qP, va_K.moved (u := U) (U := U.calling g mk a) (Vm.Alike.refl U.vm) qK, qD⟩, va_recv hK hPc (ci := 10) (q0 := 0) rfl rfl, fun U hU hW => ⟨rfl, by rw [hU], by rw [hU]; exact hPc, va_K.moved hW.alike hK, hDc.weaken (fun _ _ _ _ => trivial)⟩⟩ rfl rfl hl.1 rfl (lv_room (Nat.le_of_ble_eq_true rfl)) dgX7_partAll_9 ⟨(Nat.le_of_ble_eq_true rfl), (Nat.le_of_ble_eq_true rfl)⟩) hS (fun q _ h => hFc q h) hFc (fun r9 g9 t H1 locs ht hvm hw hB hz1 hk1 hS => ?_)
      obtain ⟨hP1, hD1⟩ := hB
      rw [ht] at hP1
      obtain ⟨hP, hD⟩ := va_join (wr := []) (w1 := [(aX, .inr (10, [.ref (nx 0), .ref (nx 1), .ref (nx 2), .ref (nx 3), .ref (nx 4), .ref (nx 5), .ref (nx 6), .int (nI cn), .int x8, .int (nI (np_rings cn T.1).2), .int g9.1])), ((nx 0), .inl (cI, 24, .inl (ow_nI (np_onceS cn T).1))), ((nx 1), .inl (cI, 24, .inl (ow_nI (np_onceS cn T).2))), ((nx 4), .inl (cI, 24, .inl g9.2.1)), ((nx 5), .inl (cI, 24, .inl g9.2.2.1)), ((nx 6), .inl (cI, 24, .inl g9.2.2.2))]) hP hD [0, 1, 2, 3, 4, 5] [] rfl rfl (by decide) (by decide) hk1 hFc hP1 hD1
      generalize H1 = H at hP hS ⊢
      have hP : va_P (dC, dI) vwCl [(aX, .inr (10, [.ref (nx 0), .ref (nx 1), .ref (nx 2), .ref (nx 3), .ref (nx 4), .ref (nx 5), .ref (nx 6), .int (nI cn), .int x8, .int (nI (np_rings cn T.1).2), .int g9.1])), ((nx 0), .inl (cI, 24, .inl (ow_nI (np_onceS cn T).1))), ((nx 1), .inl (cI, 24, .inl (ow_nI (np_onceS cn T).2))), ((nx 4), .inl (cI, 24, .inl g9.2.1)), ((nx 5), .inl (cI, 24, .inl g9.2.2.1)), ((nx 6), .inl (cI, 24, .inl g9.2.2.2))] H := hP
      have hD : va_D A [(aX, .inr (10, [.ref (nx 0), .ref (nx 1), .ref (nx 2), .ref (nx 3), .ref (nx 4), .ref (nx 5), .ref (nx 6), .int (nI cn), .int x8, .int (nI (np_rings cn T.1).2), .int g9.1])), ((nx 0), .inl (cI, 24, .inl (ow_nI (np_onceS cn T).1))), ((nx 1), .inl (cI, 24, .inl (ow_nI (np_onceS cn T).2))), ((nx 4), .inl (cI, 24, .inl g9.2.1)), ((nx 5), .inl (cI, 24, .inl g9.2.2.1)), ((nx 6), .inl (cI, 24, .inl g9.2.2.2))] := hD
      have hr9 : r9 = np_onceR cn T := hw
      rcases hon : np_once cn T with _ | q
      · have hr0 : r9 = 0 := by rw [hr9, np_onceR, hon]
        have hTT : np_onceS cn T = T := by rw [np_onceS, hon]
        have hq : np_all cn 12 S = np_onceS cn T := by rw [hq, np_all, hon, hTT]
        refine lv_if_ne (tgt := 16) hx hb dgX7_partAll_12 (by decide) (fun c9 => absurd c9 (not_not_intro hr0)) (fun _ => ?_)
        have hP : va_P (dC, dI) vwCl [(aX, .inr (10, [.ref (nx 0), .ref (nx 1), .ref (nx 2), .ref (nx 3), .ref (nx 4), .ref (nx 5), .ref (nx 6), .int (nI cn), .int x8, .int (nI (np_rings cn T.1).2), .int g9.1])), ((nx 0), .inl (cI, 24, .inl (ow_nI (np_all cn 12 S).1))), ((nx 1), .inl (cI, 24, .inl (ow_nI (np_all cn 12 S).2))), ((nx 4), .inl (cI, 24, .inl g9.2.1)), ((nx 5), .inl (cI, 24, .inl g9.2.2.1)), ((nx 6), .inl (cI, 24, .inl g9.2.2.2))] H := by rw [hq]; exact hP
        have hD : va_D A [(aX, .inr (10, [.ref (nx 0), .ref (nx 1), .ref (nx 2), .ref (nx 3), .ref (nx 4), .ref (nx 5), .ref (nx 6), .int (nI cn), .int x8, .int (nI (np_rings cn T.1).2), .int g9.1])), ((nx 0), .inl (cI, 24, .inl (ow_nI (np_all cn 12 S).1))), ((nx 1), .inl (cI, 24, .inl (ow_nI (np_all cn 12 S).2))), ((nx 4), .inl (cI, 24, .inl g9.2.1)), ((nx 5), .inl (cI, 24, .inl g9.2.2.1)), ((nx 6), .inl (cI, 24, .inl g9.2.2.2))] := by rw [hq]; exact hD
        rw [hQQ]
        exact W.vret hx hb hr (fun t ht hW => ⟨⟨((nI (np_rings cn T.1).2), g9.1, g9.2.1, g9.2.2.1, g9.2.2.2), rfl, trivial, by rw [ht]; exact hP, hD⟩, hS.F ht⟩) hS.2.2 dgX7_partAll_15
      · have hr1 : r9 = 1 := by rw [hr9, np_onceR, hon]
        have hq : np_all cn 12 S = np_all cn d (np_onceS cn T) := by rw [hq, np_all, hon]
        refine lv_if_ne (tgt := 16) hx hb dgX7_partAll_12 (by decide) (fun _ => ?_) (fun c9 => absurd c9 (by rw [hr1]; decide))
        refine lv_iinc (v := nI (i + 1)) (lv' := [(1, .int (nI (i + 1))), (0, .ref aX)]) hx hb dgX7_partAll_16 hl (k := 1) rfl (nI_1 i) (by decide) rfl (fun ls hl => ?_)
        refine lv_goto (tgt := 2) hx hb dgX7_partAll_19 (by decide) ?_
        exact ih (i + 1) (np_onceS cn T) (nI (np_rings cn T.1).2) g9.1 g9.2.1 g9.2.2.1 g9.2.2.2 (by omega) (np_once_b24 hc hbT) (vn_once hvT) hq H locs ls hP hD hS (lv_sub hl [1, 0] rfl)
  refine lv_iconst (v := 0) hx hb dgX7_partAll_0 (by decide) ?_
  refine ow_topi (y := nI 0) (by decide) ?_
  refine lv_istore_n (lv' := [(1, .int (nI 0)), (0, .ref aX)]) hx hb dgX7_partAll_1 rfl hl (by decide) rfl (fun ls hl => ?_)
  exact L2 12 0 S x9 x10 F4 F5 Z (by omega) hS0 hvn rfl H locs ls hP hD hS (lv_sub hl [1, 0] rfl)
theorem dgX7_extend_0 : decode cX7_extend 0 = .ok (.aload_n 2, 1) := by decide +kernel
theorem dgX7_extend_1 : decode cX7_extend 1 = .ok (.iload_n 3, 1) := by decide +kernel
theorem dgX7_extend_2 : decode cX7_extend 2 = .ok (.iaload, 1) := by decide +kernel
theorem dgX7_extend_3 : decode cX7_extend 3 = .ok (.iconst (-1), 1) := by decide +kernel
theorem dgX7_extend_4 : decode cX7_extend 4 = .ok (.if_icmp .ne 11, 3) := by decide +kernel
theorem dgX7_extend_7 : decode cX7_extend 7 = .ok (.aload_n 1, 1) := by decide +kernel
theorem dgX7_extend_8 : decode cX7_extend 8 = .ok (.iload_n 3, 1) := by decide +kernel
theorem dgX7_extend_9 : decode cX7_extend 9 = .ok (.iload 4, 2) := by decide +kernel
theorem dgX7_extend_11 : decode cX7_extend 11 = .ok (.iastore, 1) := by decide +kernel
theorem dgX7_extend_12 : decode cX7_extend 12 = .ok (.goto 12, 3) := by decide +kernel
theorem dgX7_extend_15 : decode cX7_extend 15 = .ok (.aload_n 0, 1) := by decide +kernel
theorem dgX7_extend_16 : decode cX7_extend 16 = .ok (.aload_n 2, 1) := by decide +kernel
theorem dgX7_extend_17 : decode cX7_extend 17 = .ok (.iload_n 3, 1) := by decide +kernel
theorem dgX7_extend_18 : decode cX7_extend 18 = .ok (.iaload, 1) := by decide +kernel
theorem dgX7_extend_19 : decode cX7_extend 19 = .ok (.iload 4, 2) := by decide +kernel
theorem dgX7_extend_21 : decode cX7_extend 21 = .ok (.invokevirtual 54, 3) := by decide +kernel
theorem dgX7_extend_24 : decode cX7_extend 24 = .ok (.return_, 1) := by decide +kernel
def wg_X7_extend : List Cond := .code yX7_extend cX7_extend 5 none :: (([] ++ wsX70) ++ (wsV RX7 54 RX7 yX7_link wg_X7_link ++ []))
theorem gg_X7_extend_0 : GoodIn wg_X7_extend (wsV RX7 54 RX7 yX7_link wg_X7_link) := goodIn_sub (fun _ h => List.mem_cons_of_mem _ (List.mem_append_right _ (List.mem_append_left _ h))) (by decide +kernel)
set_option maxHeartbeats 4000000 in
set_option maxRecDepth 100000 in
theorem kg_X7_extend (l : Launch) (dC : Nat → ClassId) (dI : Nat → Nat → Nat) (cI cB cJ cZ : ClassId) (aX : Nat) (nx : Nat → Nat) (x7 x8 x9 x10 : Int32) (aA aB : Nat) (A1 A2 : Nat → Int32) (S : ow_NP) (j v l9 : Nat) (hj : j < 24) (hv : v < 24) (h2 : A2 j = -1 ∨ (A2 j = nI l9 ∧ l9 < 24)) (sz : Nat) : Met l yX7_extend wg_X7_extend (({ frames := 1, cells := 0, slots := 0, locals := 22 } : Room)) (va_Pc [.ref aX, .ref aA, .ref aB, .int (nI j), .int (nI v)] (fun U => U.heap.size = sz ∧ va_P (dC, dI) vwCl [(aX, .inr (10, [.ref (nx 0), .ref (nx 1), .ref (nx 2), .ref (nx 3), .ref (nx 4), .ref (nx 5), .ref (nx 6), .int x7, .int x8, .int x9, .int x10])), ((nx 0), .inl (cI, 24, .inl (ow_nI S.1))), ((nx 1), .inl (cI, 24, .inl (ow_nI S.2))), (aA, .inl (cI, 24, .inl A1)), (aB, .inl (cI, 24, .inl A2))] U.heap ∧ va_K (dC, dI) vwCl [(cI, .int), (cB, .byte), (cJ, .long), (cZ, .boolean)] U ∧ va_D (fun _ => True) [(aX, .inr (10, [.ref (nx 0), .ref (nx 1), .ref (nx 2), .ref (nx 3), .ref (nx 4), .ref (nx 5), .ref (nx 6), .int x7, .int x8, .int x9, .int x10])), ((nx 0), .inl (cI, 24, .inl (ow_nI S.1))), ((nx 1), .inl (cI, 24, .inl (ow_nI S.2))), (aA, .inl (cI, 24, .inl A1)), (aB, .inl (cI, 24, .inl A2))])) (va_Qv (fun (g : Unit) => True) (fun g t => va_P (dC, dI) vwCl [(aX, .inr (10, [.ref (nx 0), .ref (nx 1), .ref (nx 2), .ref (nx 3), .ref (nx 4), .ref (nx 5), .ref (nx 6), .int x7, .int x8, .int x9, .int x10])), ((nx 0), .inl (cI, 24, .inl (ow_nI (if A2 j = -1 then S else nl S l9 v).1))), ((nx 1), .inl (cI, 24, .inl (ow_nI (if A2 j = -1 then S else nl S l9 v).2))), (aA, .inl (cI, 24, .inl (if A2 j = -1 then su A1 j (nI v) else A1))), (aB, .inl (cI, 24, .inl A2))] t.heap ∧ va_D (va_A [(aX, .inr (10, [.ref (nx 0), .ref (nx 1), .ref (nx 2), .ref (nx 3), .ref (nx 4), .ref (nx 5), .ref (nx 6), .int x7, .int x8, .int x9, .int x10])), ((nx 0), .inl (cI, 24, .inl (ow_nI S.1))), ((nx 1), .inl (cI, 24, .inl (ow_nI S.2))), (aA, .inl (cI, 24, .inl A1)), (aB, .inl (cI, 24, .inl A2))] sz) [(aX, .inr (10, [.ref (nx 0), .ref (nx 1), .ref (nx 2), .ref (nx 3), .ref (nx 4), .ref (nx 5), .ref (nx 6), .int x7, .int x8, .int x9, .int x10])), ((nx 0), .inl (cI, 24, .inl (ow_nI (if A2 j = -1 then S else nl S l9 v).1))), ((nx 1), .inl (cI, 24, .inl (ow_nI (if A2 j = -1 then S else nl S l9 v).2))), (aA, .inl (cI, 24, .inl (if A2 j = -1 then su A1 j (nI v) else A1))), (aB, .inl (cI, 24, .inl A2))]) (va_A [(aX, .inr (10, [.ref (nx 0), .ref (nx 1), .ref (nx 2), .ref (nx 3), .ref (nx 4), .ref (nx 5), .ref (nx 6), .int x7, .int x8, .int x9, .int x10])), ((nx 0), .inl (cI, 24, .inl (ow_nI S.1))), ((nx 1), .inl (cI, 24, .inl (ow_nI S.2))), (aA, .inl (cI, 24, .inl A1)), (aB, .inl (cI, 24, .inl A2))] sz)) 0 0 (va_A [(aX, .inr (10, [.ref (nx 0), .ref (nx 1), .ref (nx 2), .ref (nx 3), .ref (nx 4), .ref (nx 5), .ref (nx 6), .int x7, .int x8, .int x9, .int x10])), ((nx 0), .inl (cI, 24, .inl (ow_nI S.1))), ((nx 1), .inl (cI, 24, .inl (ow_nI S.2))), (aA, .inl (cI, 24, .inl A1)), (aB, .inl (cI, 24, .inl A2))] sz) := by
  refine Met.ofW (cc := cX7_extend) (maxL := 5) (ret := none) (by decide) rfl ?_
  intro p e s m args below meth c s₁ B hml hv
  obtain ⟨rfl, hsz, hP, hK, hD0⟩ := hv
  have hx := B.exec
  have hb := B.bytes
  have hr := B.returns
  have hts := atoms_spec (ws := wg_X7_extend) B.pre
  have hown : s.vm.findClass RX7 = some m.cls := findClass_of_methodNamed B.named
  have hlocks := B.notSynchronized
  subst hsz
  have hD := hD0.self (sz := s.heap.size)
  generalize hAe : va_A [(aX, .inr (10, [.ref (nx 0), .ref (nx 1), .ref (nx 2), .ref (nx 3), .ref (nx 4), .ref (nx 5), .ref (nx 6), .int x7, .int x8, .int x9, .int x10])), ((nx 0), .inl (cI, 24, .inl (ow_nI S.1))), ((nx 1), .inl (cI, 24, .inl (ow_nI S.2))), (aA, .inl (cI, 24, .inl A1)), (aB, .inl (cI, 24, .inl A2))] s.heap.size = A at hD ⊢
  have hA : ∀ q : Nat, s.heap.size ≤ q → A q := fun q h => by rw [← hAe]; exact Or.inr h
  have hS : va_S A s.heap s.heap [] := va_S.rf
  have hP : va_P (dC, dI) vwCl [(aX, .inr (10, [.ref (nx 0), .ref (nx 1), .ref (nx 2), .ref (nx 3), .ref (nx 4), .ref (nx 5), .ref (nx 6), .int x7, .int x8, .int x9, .int x10])), ((nx 0), .inl (cI, 24, .inl (ow_nI S.1))), ((nx 1), .inl (cI, 24, .inl (ow_nI S.2))), (aA, .inl (cI, 24, .inl A1)), (aB, .inl (cI, 24, .inl A2))] s.heap := hP
  have hl := lv_entry ([.ref aX, .ref aA, .ref aB, .int (nI j), .int (nI v)]) (n := 5) (Nat.le_of_ble_eq_true rfl)
  rw [lg_entry_eq]
  generalize (lg_sl ([.ref aX, .ref aA, .ref aB, .int (nI j), .int (nI v)]) ++ List.replicate (5 - (lg_sl ([.ref aX, .ref aA, .ref aB, .int (nI j), .int (nI v)])).length) Slot.unset).toArray = ls at hl ⊢
  have hl : lv_has ls 5 [(0, .ref aX), (1, .ref aA), (2, .ref aB), (3, .int (nI j)), (4, .int (nI v))] := hl
  refine ow_named (fun QQ hQQ => ?_)
  suffices key9 : ∀ (H : Heap) (locs : List Loc), va_P (dC, dI) vwCl [(aX, .inr (10, [.ref (nx 0), .ref (nx 1), .ref (nx 2), .ref (nx 3), .ref (nx 4), .ref (nx 5), .ref (nx 6), .int x7, .int x8, .int x9, .int x10])), ((nx 0), .inl (cI, 24, .inl (ow_nI S.1))), ((nx 1), .inl (cI, 24, .inl (ow_nI S.2))), (aA, .inl (cI, 24, .inl A1)), (aB, .inl (cI, 24, .inl A2))] H → va_S A s.heap H locs → W p l e ({ frames := 1, cells := 0, slots := 0, locals := 22 } : Room) s m ([.ref aX, .ref aA, .ref aB, .int (nI j), .int (nI v)] : List Value).toArray below meth c H locs 0 0 QQ (F0 m 0 ls []) from key9 s.heap [] hP hS
  intro H locs hP hS
  refine lv_aload_n hx hb dgX7_extend_0 rfl (lv_at hl 2 rfl) ?_
  refine lv_iload_n hx hb dgX7_extend_1 rfl (lv_at hl 3 rfl) ?_
  refine va_iald hx hb hK hP 4 0 rfl rfl (vp_in_nI (n := j) (N := 24) hj (by decide)) dgX7_extend_2 ?_
  refine ow_topi (y := A2 j) (congrArg A2 (nI_clamp (n := j) (Nat.lt_trans (m := 24) hj (by decide)))) ?_
  refine lv_iconst (v := (-1)) hx hb dgX7_extend_3 (by decide) ?_
  rcases h2 with h2 | ⟨h2, hl9⟩
  · refine lv_icmp_ne (tgt := 15) hx hb dgX7_extend_4 (by decide) (fun c9 => absurd c9 (not_not_intro h2)) (fun _ => ?_)
    refine lv_aload_n hx hb dgX7_extend_7 rfl (lv_at hl 1 rfl) ?_
    refine lv_iload_n hx hb dgX7_extend_8 rfl (lv_at hl 3 rfl) ?_
    refine lv_iload hx hb dgX7_extend_9 (lv_at hl 4 rfl) ?_
    refine ow_iastF (j := j) (x := nI v) hx hb hK hP hD hS 3 0 rfl rfl hj (by decide) dgX7_extend_11 (fun H locs hP hD hS => ?_)
    have hP : va_P (dC, dI) vwCl [(aX, .inr (10, [.ref (nx 0), .ref (nx 1), .ref (nx 2), .ref (nx 3), .ref (nx 4), .ref (nx 5), .ref (nx 6), .int x7, .int x8, .int x9, .int x10])), ((nx 0), .inl (cI, 24, .inl (ow_nI S.1))), ((nx 1), .inl (cI, 24, .inl (ow_nI S.2))), (aA, .inl (cI, 24, .inl (su A1 j (nI v)))), (aB, .inl (cI, 24, .inl A2))] H := hP
    have hD : va_D A [(aX, .inr (10, [.ref (nx 0), .ref (nx 1), .ref (nx 2), .ref (nx 3), .ref (nx 4), .ref (nx 5), .ref (nx 6), .int x7, .int x8, .int x9, .int x10])), ((nx 0), .inl (cI, 24, .inl (ow_nI S.1))), ((nx 1), .inl (cI, 24, .inl (ow_nI S.2))), (aA, .inl (cI, 24, .inl (su A1 j (nI v)))), (aB, .inl (cI, 24, .inl A2))] := hD
    refine lv_goto (tgt := 24) hx hb dgX7_extend_12 (by decide) ?_
    have hP : va_P (dC, dI) vwCl [(aX, .inr (10, [.ref (nx 0), .ref (nx 1), .ref (nx 2), .ref (nx 3), .ref (nx 4), .ref (nx 5), .ref (nx 6), .int x7, .int x8, .int x9, .int x10])), ((nx 0), .inl (cI, 24, .inl (ow_nI (if A2 j = -1 then S else nl S l9 v).1))), ((nx 1), .inl (cI, 24, .inl (ow_nI (if A2 j = -1 then S else nl S l9 v).2))), (aA, .inl (cI, 24, .inl (if A2 j = -1 then su A1 j (nI v) else A1))), (aB, .inl (cI, 24, .inl A2))] H := by rw [show (if A2 j = -1 then S else nl S l9 v) = S from if_pos h2, show (if A2 j = -1 then su A1 j (nI v) else A1) = su A1 j (nI v) from if_pos h2]; exact hP
    have hD : va_D A [(aX, .inr (10, [.ref (nx 0), .ref (nx 1), .ref (nx 2), .ref (nx 3), .ref (nx 4), .ref (nx 5), .ref (nx 6), .int x7, .int x8, .int x9, .int x10])), ((nx 0), .inl (cI, 24, .inl (ow_nI (if A2 j = -1 then S else nl S l9 v).1))), ((nx 1), .inl (cI, 24, .inl (ow_nI (if A2 j = -1 then S else nl S l9 v).2))), (aA, .inl (cI, 24, .inl (if A2 j = -1 then su A1 j (nI v) else A1))), (aB, .inl (cI, 24, .inl A2))] := by rw [show (if A2 j = -1 then S else nl S l9 v) = S from if_pos h2, show (if A2 j = -1 then su A1 j (nI v) else A1) = su A1 j (nI v) from if_pos h2]; exact hD
    rw [hQQ]
    exact W.vret hx hb hr (fun t ht hW => ⟨⟨(), rfl, trivial, by rw [ht]; exact hP, hD⟩, hS.F ht⟩) hS.2.2 dgX7_extend_24
  · have hne : ¬ A2 j = -1 := by rw [h2]; exact nI_nm1 (by omega)
    refine lv_icmp_ne (tgt := 15) hx hb dgX7_extend_4 (by decide) (fun _ => ?_) (fun c9 => absurd c9 (hne))
    refine lv_aload_n hx hb dgX7_extend_15 rfl (lv_at hl 0 rfl) ?_
    refine lv_aload_n hx hb dgX7_extend_16 rfl (lv_at hl 2 rfl) ?_
    refine lv_iload_n hx hb dgX7_extend_17 rfl (lv_at hl 3 rfl) ?_
    refine va_iald hx hb hK hP 4 0 rfl rfl (vp_in_nI (n := j) (N := 24) hj (by decide)) dgX7_extend_18 ?_
    refine ow_topi (y := nI l9) ((congrArg A2 (nI_clamp (n := j) (Nat.lt_trans (m := 24) hj (by decide)))).trans (h2)) ?_
    refine lv_iload hx hb dgX7_extend_19 (lv_at hl 4 rfl) ?_
    have hPc := hP.sub (ws' := [(aX, .inr (10, [.ref (nx 0), .ref (nx 1), .ref (nx 2), .ref (nx 3), .ref (nx 4), .ref (nx 5), .ref (nx 6), .int x7, .int x8, .int x9, .int x10])), ((nx 0), .inl (cI, 24, .inl (ow_nI S.1))), ((nx 1), .inl (cI, 24, .inl (ow_nI S.2)))]) [0, 1, 2] rfl
    have hDc := hD.sub (ws' := [(aX, .inr (10, [.ref (nx 0), .ref (nx 1), .ref (nx 2), .ref (nx 3), .ref (nx 4), .ref (nx 5), .ref (nx 6), .int x7, .int x8, .int x9, .int x10])), ((nx 0), .inl (cI, 24, .inl (ow_nI S.1))), ((nx 1), .inl (cI, 24, .inl (ow_nI S.2)))]) [0, 1, 2] (by decide) rfl
    have hFc := va_free (wc := [(aX, .inr (10, [.ref (nx 0), .ref (nx 1), .ref (nx 2), .ref (nx 3), .ref (nx 4), .ref (nx 5), .ref (nx 6), .int x7, .int x8, .int x9, .int x10])), ((nx 0), .inl (cI, 24, .inl (ow_nI S.1))), ((nx 1), .inl (cI, 24, .inl (ow_nI S.2)))]) hD hS hA [0, 1, 2] rfl
    refine va_callv (va_runV (As := [.int (nI l9), .int (nI v)]) (rest := []) ⟨hx, hb, hml, hown, hts⟩ (kg_X7_link l dC dI cI cB cJ cZ aX nx x7 x8 x9 x10 S l9 v hl9 hv H.size) (cwV 2 hts gg_X7_extend_0 rfl rfl rfl (by decide +kernel) ⟨(Nat.le_of_ble_eq_true rfl), (Nat.le_of_ble_eq_true rfl)⟩) ⟨fun a U g mk q => by obtain ⟨q0, q1, qP, qK, qD⟩ := q; exact ⟨q0, q1, qP, va_K.moved (u := U) (U := U.calling g mk a) (Vm.Alike.refl U.vm) qK, qD⟩, va_recv hK hPc (ci := 10) (q0 := 0) rfl rfl, fun U hU hW => ⟨rfl, by rw [hU], by rw [hU]; exact hPc, va_K.moved hW.alike hK, hDc.weaken (fun _ _ _ _ => trivial)⟩⟩ rfl rfl hl.1 rfl (lv_room (Nat.le_of_ble_eq_true rfl)) dgX7_extend_21 ⟨(Nat.le_of_ble_eq_true rfl), (Nat.le_of_ble_eq_true rfl)⟩) hS (fun q _ h => hFc q h) hFc (fun u9 t H1 locs ht hvm hw hB hz1 hk1 hS => ?_)
    obtain ⟨hP1, hD1⟩ := hB
    rw [ht] at hP1
    obtain ⟨hP, hD⟩ := va_join (wr := [(aA, .inl (cI, 24, .inl A1)), (aB, .inl (cI, 24, .inl A2))]) (w1 := [(aX, .inr (10, [.ref (nx 0), .ref (nx 1), .ref (nx 2), .ref (nx 3), .ref (nx 4), .ref (nx 5), .ref (nx 6), .int x7, .int x8, .int x9, .int x10])), ((nx 0), .inl (cI, 24, .inl (ow_nI (nl S l9 v).1))), ((nx 1), .inl (cI, 24, .inl (ow_nI (nl S l9 v).2)))]) hP hD [0, 1, 2] [3, 4] rfl rfl (by decide) (by decide) hk1 hFc hP1 hD1
    generalize H1 = H at hP hS ⊢
    have hP : va_P (dC, dI) vwCl [(aA, .inl (cI, 24, .inl A1)), (aB, .inl (cI, 24, .inl A2)), (aX, .inr (10, [.ref (nx 0), .ref (nx 1), .ref (nx 2), .ref (nx 3), .ref (nx 4), .ref (nx 5), .ref (nx 6), .int x7, .int x8, .int x9, .int x10])), ((nx 0), .inl (cI, 24, .inl (ow_nI (nl S l9 v).1))), ((nx 1), .inl (cI, 24, .inl (ow_nI (nl S l9 v).2)))] H := hP
    have hD : va_D A [(aA, .inl (cI, 24, .inl A1)), (aB, .inl (cI, 24, .inl A2)), (aX, .inr (10, [.ref (nx 0), .ref (nx 1), .ref (nx 2), .ref (nx 3), .ref (nx 4), .ref (nx 5), .ref (nx 6), .int x7, .int x8, .int x9, .int x10])), ((nx 0), .inl (cI, 24, .inl (ow_nI (nl S l9 v).1))), ((nx 1), .inl (cI, 24, .inl (ow_nI (nl S l9 v).2)))] := hD
    have hP := hP.sub (ws' := [(aX, .inr (10, [.ref (nx 0), .ref (nx 1), .ref (nx 2), .ref (nx 3), .ref (nx 4), .ref (nx 5), .ref (nx 6), .int x7, .int x8, .int x9, .int x10])), ((nx 0), .inl (cI, 24, .inl (ow_nI (nl S l9 v).1))), ((nx 1), .inl (cI, 24, .inl (ow_nI (nl S l9 v).2))), (aA, .inl (cI, 24, .inl A1)), (aB, .inl (cI, 24, .inl A2))]) [2, 3, 4, 0, 1] rfl
    have hD := hD.sub (ws' := [(aX, .inr (10, [.ref (nx 0), .ref (nx 1), .ref (nx 2), .ref (nx 3), .ref (nx 4), .ref (nx 5), .ref (nx 6), .int x7, .int x8, .int x9, .int x10])), ((nx 0), .inl (cI, 24, .inl (ow_nI (nl S l9 v).1))), ((nx 1), .inl (cI, 24, .inl (ow_nI (nl S l9 v).2))), (aA, .inl (cI, 24, .inl A1)), (aB, .inl (cI, 24, .inl A2))]) [2, 3, 4, 0, 1] (by decide) rfl
    have hP : va_P (dC, dI) vwCl [(aX, .inr (10, [.ref (nx 0), .ref (nx 1), .ref (nx 2), .ref (nx 3), .ref (nx 4), .ref (nx 5), .ref (nx 6), .int x7, .int x8, .int x9, .int x10])), ((nx 0), .inl (cI, 24, .inl (ow_nI (if A2 j = -1 then S else nl S l9 v).1))), ((nx 1), .inl (cI, 24, .inl (ow_nI (if A2 j = -1 then S else nl S l9 v).2))), (aA, .inl (cI, 24, .inl (if A2 j = -1 then su A1 j (nI v) else A1))), (aB, .inl (cI, 24, .inl A2))] H := by rw [show (if A2 j = -1 then S else nl S l9 v) = nl S l9 v from if_neg hne, show (if A2 j = -1 then su A1 j (nI v) else A1) = A1 from if_neg hne]; exact hP
    have hD : va_D A [(aX, .inr (10, [.ref (nx 0), .ref (nx 1), .ref (nx 2), .ref (nx 3), .ref (nx 4), .ref (nx 5), .ref (nx 6), .int x7, .int x8, .int x9, .int x10])), ((nx 0), .inl (cI, 24, .inl (ow_nI (if A2 j = -1 then S else nl S l9 v).1))), ((nx 1), .inl (cI, 24, .inl (ow_nI (if A2 j = -1 then S else nl S l9 v).2))), (aA, .inl (cI, 24, .inl (if A2 j = -1 then su A1 j (nI v) else A1))), (aB, .inl (cI, 24, .inl A2))] := by rw [show (if A2 j = -1 then S else nl S l9 v) = nl S l9 v from if_neg hne, show (if A2 j = -1 then su A1 j (nI v) else A1) = A1 from if_neg hne]; exact hD
    rw [hQQ]
    exact W.vret hx hb hr (fun t ht hW => ⟨⟨(), rfl, trivial, by rw [ht]; exact hP, hD⟩, hS.F ht⟩) hS.2.2 dgX7_extend_24
